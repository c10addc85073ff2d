set_option maxHeartbeats 4000000 in
set_option maxRecDepth 100000 in
theorem c_X12_names (l : Launch) (D : va_G) (cI cJ cZ cH : ClassId) (a_this a_this_before a_this_bestLead a_this_can a_this_given a_this_images a_this_isKept a_this_lead a_this_load a_this_most a_this_net a_this_on a_this_owes a_this_row a_this_silver a_this_st a_this_step a_this_to a_this_together a_this_value a_this_waits a_this_with : Nat) (v_this_above : Int64) (v_this_below : Int64) (v_this_st : Nat → Int32) (v_this_steps : Int32) (v_this_waiting : Int32) (p0 : Int32) {res : Int32 × (Nat → Int32)} (h : F_X12_names v_this_st p0 = some res) : CTi l yX12_names wzX12_names { frames := 1, cells := 0, slots := 0, locals := 25 } D [(cI, .int), (cJ, .long), (cZ, .boolean), (cH, .object "TinHouse$House")] [.ref a_this, .int p0] [(a_this, .inr (12, [.ref a_this_st, .ref a_this_images, .ref a_this_isKept, .long v_this_above, .long v_this_below, .int v_this_steps, .ref a_this_step, .ref a_this_with, .int v_this_waiting, .ref a_this_waits, .ref a_this_value, .ref a_this_given, .ref a_this_net, .ref a_this_together, .ref a_this_most, .ref a_this_owes, .ref a_this_can, .ref a_this_row, .ref a_this_before, .ref a_this_to, .ref a_this_on, .ref a_this_load, .ref a_this_lead, .ref a_this_bestLead, .ref a_this_silver])), (a_this_st, .inl (cI, 1951, .inl v_this_st))] res.1 [(a_this, .inr (12, [.ref a_this_st, .ref a_this_images, .ref a_this_isKept, .long v_this_above, .long v_this_below, .int v_this_steps, .ref a_this_step, .ref a_this_with, .int v_this_waiting, .ref a_this_waits, .ref a_this_value, .ref a_this_given, .ref a_this_net, .ref a_this_together, .ref a_this_most, .ref a_this_owes, .ref a_this_can, .ref a_this_row, .ref a_this_before, .ref a_this_to, .ref a_this_on, .ref a_this_load, .ref a_this_lead, .ref a_this_bestLead, .ref a_this_silver])), (a_this_st, .inl (cI, 1951, .inl res.2))] := by
  unfold F_X12_names at h
  refine ii_metI (own := RX12) (lv0 := [(0, .ref a_this), (1, .int p0)]) (by decide) rfl rfl rfl (Nat.le_of_ble_eq_true rfl) (fun {p e s m args below meth c A Q} hQ => ?_)
  refine ii_iload_n 1 dX12_names_0 rfl ?_
  refine ii_i2l dX12_names_1 ?_
  refine ii_lconst dX12_names_2 kl1 ?_
  refine ii_ldc2 (v := 9) dX12_names_3 kX12_248 ?_
  obtain ⟨c_1, hc_1, h⟩ := bnd h
  refine ii_callSi (As := [.long p0.toInt64, .long (1 : Int64), .long (9 : Int64)]) (ws' := [(a_this, .inr (12, [.ref a_this_st, .ref a_this_images, .ref a_this_isKept, .long v_this_above, .long v_this_below, .int v_this_steps, .ref a_this_step, .ref a_this_with, .int v_this_waiting, .ref a_this_waits, .ref a_this_value, .ref a_this_given, .ref a_this_net, .ref a_this_together, .ref a_this_most, .ref a_this_owes, .ref a_this_can, .ref a_this_row, .ref a_this_before, .ref a_this_to, .ref a_this_on, .ref a_this_load, .ref a_this_lead, .ref a_this_bestLead, .ref a_this_silver])), (a_this_st, .inl (cI, 1951, .inl v_this_st))]) (st := []) (c_X12_in l D cI cJ cZ cH p0.toInt64 (1 : Int64) (9 : Int64) hc_1) gzX12_79 rfl rfl rfl eS_X12_in ⟨Nat.le_of_ble_eq_true rfl, Nat.le_of_ble_eq_true rfl⟩ rfl [] rfl rfl rfl rfl rfl (Nat.le_of_ble_eq_true rfl) (Nat.le_refl _) (Nat.le_refl _) rfl dX12_names_6 ?_
  refine ii_if_ne (tgt := 15) h dX12_names_9 (by decide) (fun h => ?_) (fun h => ?_)
  · skip
    refine ii_aload_n 0 dX12_names_15 rfl ?_
    refine ii_get (C := RX12) (T := TX12) (N := 25) (ci := 12) izX12 0 rfl rfl 0 (by decide) kX12_7 rfl dX12_names_16 ?_
    refine ii_bipush dX12_names_19 kb12 ?_
    refine ii_iload_n 1 dX12_names_21 rfl ?_
    refine ii_iast (fun g_2 => [(a_this, .inr (12, [.ref a_this_st, .ref a_this_images, .ref a_this_isKept, .long v_this_above, .long v_this_below, .int v_this_steps, .ref a_this_step, .ref a_this_with, .int v_this_waiting, .ref a_this_waits, .ref a_this_value, .ref a_this_given, .ref a_this_net, .ref a_this_together, .ref a_this_most, .ref a_this_owes, .ref a_this_can, .ref a_this_row, .ref a_this_before, .ref a_this_to, .ref a_this_on, .ref a_this_load, .ref a_this_lead, .ref a_this_bestLead, .ref a_this_silver])), (a_this_st, .inl (cI, 1951, .inl g_2))]) h 1 0 rfl rfl dX12_names_22 (fun _ => rfl) (fun g_2 h => ?_)
    refine ii_aload_n 0 dX12_names_23 rfl ?_
    refine ii_get (C := RX12) (T := TX12) (N := 25) (ci := 12) izX12 0 rfl rfl 0 (by decide) kX12_7 rfl dX12_names_24 ?_
    refine ii_bipush dX12_names_27 kb7 ?_
    refine ii_iconst dX12_names_29 kc0 ?_
    refine ii_iast (fun g_3 => [(a_this, .inr (12, [.ref a_this_st, .ref a_this_images, .ref a_this_isKept, .long v_this_above, .long v_this_below, .int v_this_steps, .ref a_this_step, .ref a_this_with, .int v_this_waiting, .ref a_this_waits, .ref a_this_value, .ref a_this_given, .ref a_this_net, .ref a_this_together, .ref a_this_most, .ref a_this_owes, .ref a_this_can, .ref a_this_row, .ref a_this_before, .ref a_this_to, .ref a_this_on, .ref a_this_load, .ref a_this_lead, .ref a_this_bestLead, .ref a_this_silver])), (a_this_st, .inl (cI, 1951, .inl g_3))]) h 1 0 rfl rfl dX12_names_30 (fun _ => rfl) (fun g_3 h => ?_)
    refine ii_iconst dX12_names_31 kc1 ?_
    cases h
    exact hQ _ _ dX12_names_32
  · skip
    refine ii_bipush dX12_names_12 kbm2 ?_
    cases h
    exact hQ _ _ dX12_names_14
set_option maxHeartbeats 4000000 in
set_option maxRecDepth 100000 in
theorem c_X12_isName (l : Launch) (D : va_G) (cI cJ cZ cH : ClassId) (a_this a_this_before a_this_bestLead a_this_can a_this_given a_this_images a_this_isKept a_this_lead a_this_load a_this_most a_this_net a_this_on a_this_owes a_this_row a_this_silver a_this_st a_this_step a_this_to a_this_together a_this_value a_this_waits a_this_with : Nat) (v_this_above : Int64) (v_this_below : Int64) (v_this_st : Nat → Int32) (v_this_steps : Int32) (v_this_waiting : Int32) (p0 : Int32) {res : Int32} (h : F_X12_isName v_this_st p0 = some res) : CTi l yX12_isName wzX12_isName { frames := 1, cells := 0, slots := 0, locals := 25 } D [(cI, .int), (cJ, .long), (cZ, .boolean), (cH, .object "TinHouse$House")] [.ref a_this, .int p0] [(a_this, .inr (12, [.ref a_this_st, .ref a_this_images, .ref a_this_isKept, .long v_this_above, .long v_this_below, .int v_this_steps, .ref a_this_step, .ref a_this_with, .int v_this_waiting, .ref a_this_waits, .ref a_this_value, .ref a_this_given, .ref a_this_net, .ref a_this_together, .ref a_this_most, .ref a_this_owes, .ref a_this_can, .ref a_this_row, .ref a_this_before, .ref a_this_to, .ref a_this_on, .ref a_this_load, .ref a_this_lead, .ref a_this_bestLead, .ref a_this_silver])), (a_this_st, .inl (cI, 1951, .inl v_this_st))] res [(a_this, .inr (12, [.ref a_this_st, .ref a_this_images, .ref a_this_isKept, .long v_this_above, .long v_this_below, .int v_this_steps, .ref a_this_step, .ref a_this_with, .int v_this_waiting, .ref a_this_waits, .ref a_this_value, .ref a_this_given, .ref a_this_net, .ref a_this_together, .ref a_this_most, .ref a_this_owes, .ref a_this_can, .ref a_this_row, .ref a_this_before, .ref a_this_to, .ref a_this_on, .ref a_this_load, .ref a_this_lead, .ref a_this_bestLead, .ref a_this_silver])), (a_this_st, .inl (cI, 1951, .inl v_this_st))] := by
  unfold F_X12_isName at h
  refine ii_metZ (own := RX12) (lv0 := [(0, .ref a_this), (1, .int p0)]) (by decide) rfl rfl rfl (Nat.le_of_ble_eq_true rfl) (fun {p e s m args below meth c A Q} hQ => ?_)
  refine ii_iload_n 1 dX12_isName_0 rfl ?_
  refine ii_i2l dX12_isName_1 ?_
  refine ii_lconst dX12_isName_2 kl0 ?_
  refine ii_aload_n 0 dX12_isName_3 rfl ?_
  refine ii_get (C := RX12) (T := TX12) (N := 25) (ci := 12) izX12 0 rfl rfl 0 (by decide) kX12_7 rfl dX12_isName_4 ?_
  refine ii_bipush dX12_isName_7 kb12 ?_
  refine ii_iald h 1 0 rfl rfl dX12_isName_9 (fun t_1 h => ?_)
  refine ii_iconst dX12_isName_10 kc1 ?_
  refine ii_isub dX12_isName_11 ?_
  refine ii_i2l dX12_isName_12 ?_
  obtain ⟨c_2, hc_2, h⟩ := bnd h
  refine ii_callSi (As := [.long p0.toInt64, .long (0 : Int64), .long ((t_1 - (1 : Int32)).toInt64)]) (ws' := [(a_this, .inr (12, [.ref a_this_st, .ref a_this_images, .ref a_this_isKept, .long v_this_above, .long v_this_below, .int v_this_steps, .ref a_this_step, .ref a_this_with, .int v_this_waiting, .ref a_this_waits, .ref a_this_value, .ref a_this_given, .ref a_this_net, .ref a_this_together, .ref a_this_most, .ref a_this_owes, .ref a_this_can, .ref a_this_row, .ref a_this_before, .ref a_this_to, .ref a_this_on, .ref a_this_load, .ref a_this_lead, .ref a_this_bestLead, .ref a_this_silver])), (a_this_st, .inl (cI, 1951, .inl v_this_st))]) (st := []) (c_X12_in l D cI cJ cZ cH p0.toInt64 (0 : Int64) ((t_1 - (1 : Int32)).toInt64) hc_2) gzX12_79 rfl rfl rfl eS_X12_in ⟨Nat.le_of_ble_eq_true rfl, Nat.le_of_ble_eq_true rfl⟩ rfl [] rfl rfl rfl rfl rfl (Nat.le_of_ble_eq_true rfl) (Nat.le_refl _) (Nat.le_refl _) rfl dX12_isName_13 ?_
  refine ii_topB h (fun t_3 hz_4 h => ?_)
  cases h
  exact hQ _ _ dX12_isName_16 hz_4
set_option maxHeartbeats 4000000 in
set_option maxRecDepth 100000 in
theorem c_X12_ahead (l : Launch) (D : va_G) (cI cJ cZ cH : ClassId) (a_this a_this_before a_this_bestLead a_this_can a_this_given a_this_images a_this_isKept a_this_lead a_this_load a_this_most a_this_net a_this_on a_this_owes a_this_row a_this_silver a_this_st a_this_step a_this_to a_this_together a_this_value a_this_waits a_this_with : Nat) (v_this_above : Int64) (v_this_below : Int64) (v_this_st : Nat → Int32) (v_this_steps : Int32) (v_this_waiting : Int32) (p0 : Int32) (p1 : Int32) (p2 : Int32) {res : Int32 × (Nat → Int32)} (h : F_X12_ahead v_this_st p0 p1 p2 = some res) : CTi l yX12_ahead wzX12_ahead { frames := 2, cells := 0, slots := 0, locals := 46 } D [(cI, .int), (cJ, .long), (cZ, .boolean), (cH, .object "TinHouse$House")] [.ref a_this, .int p0, .int p1, .int p2] [(a_this, .inr (12, [.ref a_this_st, .ref a_this_images, .ref a_this_isKept, .long v_this_above, .long v_this_below, .int v_this_steps, .ref a_this_step, .ref a_this_with, .int v_this_waiting, .ref a_this_waits, .ref a_this_value, .ref a_this_given, .ref a_this_net, .ref a_this_together, .ref a_this_most, .ref a_this_owes, .ref a_this_can, .ref a_this_row, .ref a_this_before, .ref a_this_to, .ref a_this_on, .ref a_this_load, .ref a_this_lead, .ref a_this_bestLead, .ref a_this_silver])), (a_this_st, .inl (cI, 1951, .inl v_this_st))] res.1 [(a_this, .inr (12, [.ref a_this_st, .ref a_this_images, .ref a_this_isKept, .long v_this_above, .long v_this_below, .int v_this_steps, .ref a_this_step, .ref a_this_with, .int v_this_waiting, .ref a_this_waits, .ref a_this_value, .ref a_this_given, .ref a_this_net, .ref a_this_together, .ref a_this_most, .ref a_this_owes, .ref a_this_can, .ref a_this_row, .ref a_this_before, .ref a_this_to, .ref a_this_on, .ref a_this_load, .ref a_this_lead, .ref a_this_bestLead, .ref a_this_silver])), (a_this_st, .inl (cI, 1951, .inl res.2))] := by
  unfold F_X12_ahead at h
  refine ii_metI (own := RX12) (lv0 := [(0, .ref a_this), (1, .int p0), (2, .int p1), (3, .int p2)]) (by decide) rfl rfl rfl (Nat.le_of_ble_eq_true rfl) (fun {p e s m args below meth c A Q} hQ => ?_)
  refine ii_aload_n 0 dX12_ahead_0 rfl ?_
  refine ii_iload_n 1 dX12_ahead_1 rfl ?_
  obtain ⟨c_1, hc_1, h⟩ := bnd h
  refine ii_callVi (As := [.int p0]) (ws' := [(a_this, .inr (12, [.ref a_this_st, .ref a_this_images, .ref a_this_isKept, .long v_this_above, .long v_this_below, .int v_this_steps, .ref a_this_step, .ref a_this_with, .int v_this_waiting, .ref a_this_waits, .ref a_this_value, .ref a_this_given, .ref a_this_net, .ref a_this_together, .ref a_this_most, .ref a_this_owes, .ref a_this_can, .ref a_this_row, .ref a_this_before, .ref a_this_to, .ref a_this_on, .ref a_this_load, .ref a_this_lead, .ref a_this_bestLead, .ref a_this_silver])), (a_this_st, .inl (cI, 1951, .inl v_this_st))]) (st := []) (c_X12_isName l D cI cJ cZ cH a_this a_this_before a_this_bestLead a_this_can a_this_given a_this_images a_this_isKept a_this_lead a_this_load a_this_most a_this_net a_this_on a_this_owes a_this_row a_this_silver a_this_st a_this_step a_this_to a_this_together a_this_value a_this_waits a_this_with v_this_above v_this_below v_this_st v_this_steps v_this_waiting p0 hc_1) gzX12_250 rfl rfl rfl eV_X12_isName ⟨Nat.le_of_ble_eq_true rfl, Nat.le_of_ble_eq_true rfl⟩ rfl 0 rfl rfl [0, 1] rfl rfl rfl rfl rfl (Nat.le_of_ble_eq_true rfl) (Nat.le_refl _) (Nat.le_refl _) rfl dX12_ahead_2 ?_
  refine ii_if_eq (tgt := 33) h dX12_ahead_5 (by decide) (fun h => ?_) (fun h => ?_)
  · skip
    refine ii_bipush dX12_ahead_33 kbm2 ?_
    cases h
    exact hQ _ _ dX12_ahead_35
  · skip
    refine ii_aload_n 0 dX12_ahead_8 rfl ?_
    refine ii_iload_n 2 dX12_ahead_9 rfl ?_
    obtain ⟨c_2, hc_2, h⟩ := bnd h
    refine ii_callVi (As := [.int p1]) (ws' := [(a_this, .inr (12, [.ref a_this_st, .ref a_this_images, .ref a_this_isKept, .long v_this_above, .long v_this_below, .int v_this_steps, .ref a_this_step, .ref a_this_with, .int v_this_waiting, .ref a_this_waits, .ref a_this_value, .ref a_this_given, .ref a_this_net, .ref a_this_together, .ref a_this_most, .ref a_this_owes, .ref a_this_can, .ref a_this_row, .ref a_this_before, .ref a_this_to, .ref a_this_on, .ref a_this_load, .ref a_this_lead, .ref a_this_bestLead, .ref a_this_silver])), (a_this_st, .inl (cI, 1951, .inl v_this_st))]) (st := []) (c_X12_isName l D cI cJ cZ cH a_this a_this_before a_this_bestLead a_this_can a_this_given a_this_images a_this_isKept a_this_lead a_this_load a_this_most a_this_net a_this_on a_this_owes a_this_row a_this_silver a_this_st a_this_step a_this_to a_this_together a_this_value a_this_waits a_this_with v_this_above v_this_below v_this_st v_this_steps v_this_waiting p1 hc_2) gzX12_250 rfl rfl rfl eV_X12_isName ⟨Nat.le_of_ble_eq_true rfl, Nat.le_of_ble_eq_true rfl⟩ rfl 0 rfl rfl [0, 1] rfl rfl rfl rfl rfl (Nat.le_of_ble_eq_true rfl) (Nat.le_refl _) (Nat.le_refl _) rfl dX12_ahead_10 ?_
    refine ii_if_eq (tgt := 33) h dX12_ahead_13 (by decide) (fun h => ?_) (fun h => ?_)
    · skip
      refine ii_bipush dX12_ahead_33 kbm2 ?_
      cases h
      exact hQ _ _ dX12_ahead_35
    · skip
      refine ii_iload_n 1 dX12_ahead_16 rfl ?_
      refine ii_iload_n 2 dX12_ahead_17 rfl ?_
      refine ii_icmp_eq (tgt := 33) h dX12_ahead_18 (by decide) (fun h => ?_) (fun h => ?_)
      · skip
        refine ii_bipush dX12_ahead_33 kbm2 ?_
        cases h
        exact hQ _ _ dX12_ahead_35
      · skip
        refine ii_iload_n 3 dX12_ahead_21 rfl ?_
        refine ii_i2l dX12_ahead_22 ?_
        refine ii_lconst dX12_ahead_23 kl0 ?_
        refine ii_ldc2 (v := 99) dX12_ahead_24 kX12_83 ?_
        obtain ⟨c_3, hc_3, h⟩ := bnd h
        refine ii_callSi (As := [.long p2.toInt64, .long (0 : Int64), .long (99 : Int64)]) (ws' := [(a_this, .inr (12, [.ref a_this_st, .ref a_this_images, .ref a_this_isKept, .long v_this_above, .long v_this_below, .int v_this_steps, .ref a_this_step, .ref a_this_with, .int v_this_waiting, .ref a_this_waits, .ref a_this_value, .ref a_this_given, .ref a_this_net, .ref a_this_together, .ref a_this_most, .ref a_this_owes, .ref a_this_can, .ref a_this_row, .ref a_this_before, .ref a_this_to, .ref a_this_on, .ref a_this_load, .ref a_this_lead, .ref a_this_bestLead, .ref a_this_silver])), (a_this_st, .inl (cI, 1951, .inl v_this_st))]) (st := []) (c_X12_in l D cI cJ cZ cH p2.toInt64 (0 : Int64) (99 : Int64) hc_3) gzX12_79 rfl rfl rfl eS_X12_in ⟨Nat.le_of_ble_eq_true rfl, Nat.le_of_ble_eq_true rfl⟩ rfl [] rfl rfl rfl rfl rfl (Nat.le_of_ble_eq_true rfl) (Nat.le_refl _) (Nat.le_refl _) rfl dX12_ahead_27 ?_
        refine ii_if_ne (tgt := 36) h dX12_ahead_30 (by decide) (fun h => ?_) (fun h => ?_)
        · skip
          refine ii_aload_n 0 dX12_ahead_36 rfl ?_
          refine ii_get (C := RX12) (T := TX12) (N := 25) (ci := 12) izX12 0 rfl rfl 0 (by decide) kX12_7 rfl dX12_ahead_37 ?_
          refine ii_bipush dX12_ahead_40 kb7 ?_
          refine ii_iald h 1 0 rfl rfl dX12_ahead_42 (fun t_4 h => ?_)
          refine ii_bipush dX12_ahead_43 kb40 ?_
          refine ii_icmp_ne (tgt := 51) h dX12_ahead_45 (by decide) (fun h => ?_) (fun h => ?_)
          · skip
            refine ii_sipush dX12_ahead_51 ks1633 ?_
            refine ii_iconst dX12_ahead_54 kc3 ?_
            refine ii_aload_n 0 dX12_ahead_55 rfl ?_
            refine ii_get (C := RX12) (T := TX12) (N := 25) (ci := 12) izX12 0 rfl rfl 0 (by decide) kX12_7 rfl dX12_ahead_56 ?_
            refine ii_bipush dX12_ahead_59 kb7 ?_
            refine ii_iald h 1 0 rfl rfl dX12_ahead_61 (fun t_5 h => ?_)
            refine ii_imul dX12_ahead_62 ?_
            refine ii_iadd dX12_ahead_63 ?_
            refine ii_topI h (fun x_6 h => ?_)
            refine ii_istore (lv' := [(4, .int x_6), (0, .ref a_this), (1, .int p0), (2, .int p1), (3, .int p2)]) dX12_ahead_64 (by decide) rfl ?_
            refine ii_aload_n 1 dX12_ahead_66 rfl ?_
            refine ii_get (C := RX12) (T := TX12) (N := 25) (ci := 12) izX12 0 rfl rfl 0 (by decide) kX12_7 rfl dX12_ahead_67 ?_
            refine ii_iload 0 dX12_ahead_70 rfl ?_
            refine ii_iload_n 2 dX12_ahead_72 rfl ?_
            refine ii_iast (fun g_7 => [(a_this, .inr (12, [.ref a_this_st, .ref a_this_images, .ref a_this_isKept, .long v_this_above, .long v_this_below, .int v_this_steps, .ref a_this_step, .ref a_this_with, .int v_this_waiting, .ref a_this_waits, .ref a_this_value, .ref a_this_given, .ref a_this_net, .ref a_this_together, .ref a_this_most, .ref a_this_owes, .ref a_this_can, .ref a_this_row, .ref a_this_before, .ref a_this_to, .ref a_this_on, .ref a_this_load, .ref a_this_lead, .ref a_this_bestLead, .ref a_this_silver])), (a_this_st, .inl (cI, 1951, .inl g_7))]) h 1 0 rfl rfl dX12_ahead_73 (fun _ => rfl) (fun g_7 h => ?_)
            refine ii_aload_n 1 dX12_ahead_74 rfl ?_
            refine ii_get (C := RX12) (T := TX12) (N := 25) (ci := 12) izX12 0 rfl rfl 0 (by decide) kX12_7 rfl dX12_ahead_75 ?_
            refine ii_iload 0 dX12_ahead_78 rfl ?_
            refine ii_iconst dX12_ahead_80 kc1 ?_
            refine ii_iadd dX12_ahead_81 ?_
            refine ii_iload_n 3 dX12_ahead_82 rfl ?_
            refine ii_iast (fun g_8 => [(a_this, .inr (12, [.ref a_this_st, .ref a_this_images, .ref a_this_isKept, .long v_this_above, .long v_this_below, .int v_this_steps, .ref a_this_step, .ref a_this_with, .int v_this_waiting, .ref a_this_waits, .ref a_this_value, .ref a_this_given, .ref a_this_net, .ref a_this_together, .ref a_this_most, .ref a_this_owes, .ref a_this_can, .ref a_this_row, .ref a_this_before, .ref a_this_to, .ref a_this_on, .ref a_this_load, .ref a_this_lead, .ref a_this_bestLead, .ref a_this_silver])), (a_this_st, .inl (cI, 1951, .inl g_8))]) h 1 0 rfl rfl dX12_ahead_83 (fun _ => rfl) (fun g_8 h => ?_)
            refine ii_aload_n 1 dX12_ahead_84 rfl ?_
            refine ii_get (C := RX12) (T := TX12) (N := 25) (ci := 12) izX12 0 rfl rfl 0 (by decide) kX12_7 rfl dX12_ahead_85 ?_
            refine ii_iload 0 dX12_ahead_88 rfl ?_
            refine ii_iconst dX12_ahead_90 kc2 ?_
            refine ii_iadd dX12_ahead_91 ?_
            refine ii_iload_n 4 dX12_ahead_92 rfl ?_
            refine ii_iast (fun g_9 => [(a_this, .inr (12, [.ref a_this_st, .ref a_this_images, .ref a_this_isKept, .long v_this_above, .long v_this_below, .int v_this_steps, .ref a_this_step, .ref a_this_with, .int v_this_waiting, .ref a_this_waits, .ref a_this_value, .ref a_this_given, .ref a_this_net, .ref a_this_together, .ref a_this_most, .ref a_this_owes, .ref a_this_can, .ref a_this_row, .ref a_this_before, .ref a_this_to, .ref a_this_on, .ref a_this_load, .ref a_this_lead, .ref a_this_bestLead, .ref a_this_silver])), (a_this_st, .inl (cI, 1951, .inl g_9))]) h 1 0 rfl rfl dX12_ahead_93 (fun _ => rfl) (fun g_9 h => ?_)
            refine ii_aload_n 1 dX12_ahead_94 rfl ?_
            refine ii_bipush dX12_ahead_95 kb7 ?_
            obtain ⟨c_10, hc_10, h⟩ := bnd h
            refine ii_callVi (As := [.int (7 : Int32)]) (ws' := [(a_this, .inr (12, [.ref a_this_st, .ref a_this_images, .ref a_this_isKept, .long v_this_above, .long v_this_below, .int v_this_steps, .ref a_this_step, .ref a_this_with, .int v_this_waiting, .ref a_this_waits, .ref a_this_value, .ref a_this_given, .ref a_this_net, .ref a_this_together, .ref a_this_most, .ref a_this_owes, .ref a_this_can, .ref a_this_row, .ref a_this_before, .ref a_this_to, .ref a_this_on, .ref a_this_load, .ref a_this_lead, .ref a_this_bestLead, .ref a_this_silver])), (a_this_st, .inl (cI, 1951, .inl c_10.2))]) (st := []) (c_X12_one l D cI cJ cZ cH a_this a_this_before a_this_bestLead a_this_can a_this_given a_this_images a_this_isKept a_this_lead a_this_load a_this_most a_this_net a_this_on a_this_owes a_this_row a_this_silver a_this_st a_this_step a_this_to a_this_together a_this_value a_this_waits a_this_with v_this_above v_this_below g_9 v_this_steps v_this_waiting (7 : Int32) hc_10) gzX12_91 rfl rfl rfl eV_X12_one ⟨Nat.le_of_ble_eq_true rfl, Nat.le_of_ble_eq_true rfl⟩ rfl 0 rfl rfl [0, 1] rfl rfl rfl rfl rfl (Nat.le_of_ble_eq_true rfl) (Nat.le_refl _) (Nat.le_refl _) rfl dX12_ahead_97 ?_
            refine ii_iconst dX12_ahead_100 kc1 ?_
            refine ii_iadd dX12_ahead_101 ?_
            cases h
            exact hQ _ _ dX12_ahead_102
          · skip
            refine ii_bipush dX12_ahead_48 kbm4 ?_
            cases h
            exact hQ _ _ dX12_ahead_50
        · skip
          refine ii_bipush dX12_ahead_33 kbm2 ?_
          cases h
          exact hQ _ _ dX12_ahead_35
set_option maxHeartbeats 4000000 in
set_option maxRecDepth 100000 in
theorem c_X12_mayCome (l : Launch) (D : va_G) (cI cJ cZ cH : ClassId) (a_this a_this_before a_this_bestLead a_this_can a_this_given a_this_images a_this_isKept a_this_lead a_this_load a_this_most a_this_net a_this_on a_this_owes a_this_row a_this_silver a_this_st a_this_step a_this_to a_this_together a_this_value a_this_waits a_this_with : Nat) (v_this_above : Int64) (v_this_before : Nat → Int32) (v_this_below : Int64) (v_this_steps : Int32) (v_this_waiting : Int32) (p0 : Int32) (p1 : Int32) {res : Int32} (h : F_X12_mayCome v_this_before p0 p1 = some res) : CTi l yX12_mayCome wzX12_mayCome { frames := 0, cells := 0, slots := 0, locals := 0 } D [(cI, .int), (cJ, .long), (cZ, .boolean), (cH, .object "TinHouse$House")] [.ref a_this, .int p0, .int p1] [(a_this, .inr (12, [.ref a_this_st, .ref a_this_images, .ref a_this_isKept, .long v_this_above, .long v_this_below, .int v_this_steps, .ref a_this_step, .ref a_this_with, .int v_this_waiting, .ref a_this_waits, .ref a_this_value, .ref a_this_given, .ref a_this_net, .ref a_this_together, .ref a_this_most, .ref a_this_owes, .ref a_this_can, .ref a_this_row, .ref a_this_before, .ref a_this_to, .ref a_this_on, .ref a_this_load, .ref a_this_lead, .ref a_this_bestLead, .ref a_this_silver])), (a_this_before, .inl (cI, 9, .inl v_this_before))] res [(a_this, .inr (12, [.ref a_this_st, .ref a_this_images, .ref a_this_isKept, .long v_this_above, .long v_this_below, .int v_this_steps, .ref a_this_step, .ref a_this_with, .int v_this_waiting, .ref a_this_waits, .ref a_this_value, .ref a_this_given, .ref a_this_net, .ref a_this_together, .ref a_this_most, .ref a_this_owes, .ref a_this_can, .ref a_this_row, .ref a_this_before, .ref a_this_to, .ref a_this_on, .ref a_this_load, .ref a_this_lead, .ref a_this_bestLead, .ref a_this_silver])), (a_this_before, .inl (cI, 9, .inl v_this_before))] := by
  unfold F_X12_mayCome at h
  refine ii_metZ (own := RX12) (lv0 := [(0, .ref a_this), (1, .int p0), (2, .int p1)]) (by decide) rfl rfl rfl (Nat.le_of_ble_eq_true rfl) (fun {p e s m args below meth c A Q} hQ => ?_)
  refine ii_iload_n 1 dX12_mayCome_0 rfl ?_
  refine ii_iload_n 2 dX12_mayCome_1 rfl ?_
  refine ii_ishr dX12_mayCome_2 ?_
  refine ii_iconst dX12_mayCome_3 kc1 ?_
  refine ii_iand dX12_mayCome_4 ?_
  refine ii_jn h (fun j_1 => [(a_this, .inr (12, [.ref a_this_st, .ref a_this_images, .ref a_this_isKept, .long v_this_above, .long v_this_below, .int v_this_steps, .ref a_this_step, .ref a_this_with, .int v_this_waiting, .ref a_this_waits, .ref a_this_value, .ref a_this_given, .ref a_this_net, .ref a_this_together, .ref a_this_most, .ref a_this_owes, .ref a_this_can, .ref a_this_row, .ref a_this_before, .ref a_this_to, .ref a_this_on, .ref a_this_load, .ref a_this_lead, .ref a_this_bestLead, .ref a_this_silver])), (a_this_before, .inl (cI, 9, .inl v_this_before))]) (fun j_1 => []) 26 (fun j_1 => [.int j_1]) (fun j_1 h => ?_) (fun j_1 h hjj_1 => ?_)
  · skip
    refine ii_topB h (fun t_3 hz_4 h => ?_)
    cases h
    exact hQ _ _ dX12_mayCome_26 hz_4
  · skip
    refine ii_if_ne (tgt := 25) h dX12_mayCome_5 (by decide) (fun h => ?_) (fun h => ?_)
    · skip
      refine ii_iconst dX12_mayCome_25 kc0 ?_
      refine ii_lv [] rfl ?_
      cases h
      exact hjj_1
    · skip
      refine ii_aload_n 0 dX12_mayCome_8 rfl ?_
      refine ii_get (C := RX12) (T := TX12) (N := 25) (ci := 12) izX12 0 rfl rfl 18 (by decide) kX12_54 rfl dX12_mayCome_9 ?_
      refine ii_iload_n 2 dX12_mayCome_12 rfl ?_
      refine ii_iald h 1 0 rfl rfl dX12_mayCome_13 (fun t_2 h => ?_)
      refine ii_iload_n 1 dX12_mayCome_14 rfl ?_
      refine ii_iconst dX12_mayCome_15 kcm1 ?_
      refine ii_ixor dX12_mayCome_16 ?_
      refine ii_iand dX12_mayCome_17 ?_
      refine ii_if_ne (tgt := 25) h dX12_mayCome_18 (by decide) (fun h => ?_) (fun h => ?_)
      · skip
        refine ii_iconst dX12_mayCome_25 kc0 ?_
        refine ii_lv [] rfl ?_
        cases h
        exact hjj_1
      · skip
        refine ii_iconst dX12_mayCome_21 kc1 ?_
        refine ii_goto (tgt := 26) dX12_mayCome_22 (by decide) ?_
        refine ii_lv [] rfl ?_
        cases h
        exact hjj_1
set_option maxHeartbeats 4000000 in
set_option maxRecDepth 100000 in
theorem c_X12_findOrders (l : Launch) (D : va_G) (cI cJ cZ cH : ClassId) (a_this a_this_before a_this_bestLead a_this_can a_this_given a_this_images a_this_isKept a_this_lead a_this_load a_this_most a_this_net a_this_on a_this_owes a_this_row a_this_silver a_this_st a_this_step a_this_to a_this_together a_this_value a_this_waits a_this_with : Nat) (v_this_above : Int64) (v_this_before : Nat → Int32) (v_this_below : Int64) (v_this_on : Nat → Int64) (v_this_st : Nat → Int32) (v_this_steps : Int32) (v_this_to : Nat → Int64) (v_this_waiting : Int32) (p0 : Int32) {res : Int64 × (Nat → Int32) × (Nat → Int64) × (Nat → Int64)} (h : F_X12_findOrders v_this_before v_this_on v_this_st v_this_to p0 = some res) : CTl l yX12_findOrders wzX12_findOrders { frames := 1, cells := 0, slots := 0, locals := 22 } D [(cI, .int), (cJ, .long), (cZ, .boolean), (cH, .object "TinHouse$House")] [.ref a_this, .int p0] [(a_this, .inr (12, [.ref a_this_st, .ref a_this_images, .ref a_this_isKept, .long v_this_above, .long v_this_below, .int v_this_steps, .ref a_this_step, .ref a_this_with, .int v_this_waiting, .ref a_this_waits, .ref a_this_value, .ref a_this_given, .ref a_this_net, .ref a_this_together, .ref a_this_most, .ref a_this_owes, .ref a_this_can, .ref a_this_row, .ref a_this_before, .ref a_this_to, .ref a_this_on, .ref a_this_load, .ref a_this_lead, .ref a_this_bestLead, .ref a_this_silver])), (a_this_before, .inl (cI, 9, .inl v_this_before)), (a_this_on, .inl (cJ, 512, .inr (.inl v_this_on))), (a_this_st, .inl (cI, 1951, .inl v_this_st)), (a_this_to, .inl (cJ, 512, .inr (.inl v_this_to)))] res.1 [(a_this, .inr (12, [.ref a_this_st, .ref a_this_images, .ref a_this_isKept, .long v_this_above, .long v_this_below, .int v_this_steps, .ref a_this_step, .ref a_this_with, .int v_this_waiting, .ref a_this_waits, .ref a_this_value, .ref a_this_given, .ref a_this_net, .ref a_this_together, .ref a_this_most, .ref a_this_owes, .ref a_this_can, .ref a_this_row, .ref a_this_before, .ref a_this_to, .ref a_this_on, .ref a_this_load, .ref a_this_lead, .ref a_this_bestLead, .ref a_this_silver])), (a_this_before, .inl (cI, 9, .inl res.2.1)), (a_this_on, .inl (cJ, 512, .inr (.inl res.2.2.1))), (a_this_st, .inl (cI, 1951, .inl v_this_st)), (a_this_to, .inl (cJ, 512, .inr (.inl res.2.2.2)))] := by
  unfold F_X12_findOrders at h
  refine ii_metL (own := RX12) (lv0 := [(0, .ref a_this), (1, .int p0)]) (by decide) rfl rfl rfl (Nat.le_of_ble_eq_true rfl) (fun {p e s m args below meth c A Q} hQ => ?_)
  refine ii_aload_n 0 dX12_findOrders_0 rfl ?_
  refine ii_get (C := RX12) (T := TX12) (N := 25) (ci := 12) izX12 0 rfl rfl 0 (by decide) kX12_7 rfl dX12_findOrders_1 ?_
  refine ii_bipush dX12_findOrders_4 kb12 ?_
  refine ii_iald h 3 0 rfl rfl dX12_findOrders_6 (fun t_1 h => ?_)
  refine ii_istore_n (lv' := [(2, .int t_1), (0, .ref a_this), (1, .int p0)]) dX12_findOrders_7 rfl (by decide) rfl ?_
  refine ii_iconst dX12_findOrders_8 kc0 ?_
  refine ii_istore_n (lv' := [(3, .int (0 : Int32)), (2, .int t_1), (0, .ref a_this), (1, .int p0)]) dX12_findOrders_9 rfl (by decide) rfl ?_
  refine ii_lv [2, 3, 1, 0] rfl ?_
  obtain ⟨x_3, hl_2, h⟩ := bnd h
  refine ii_loopX (fun s_2 => [(a_this, .inr (12, [.ref a_this_st, .ref a_this_images, .ref a_this_isKept, .long v_this_above, .long v_this_below, .int v_this_steps, .ref a_this_step, .ref a_this_with, .int v_this_waiting, .ref a_this_waits, .ref a_this_value, .ref a_this_given, .ref a_this_net, .ref a_this_together, .ref a_this_most, .ref a_this_owes, .ref a_this_can, .ref a_this_row, .ref a_this_before, .ref a_this_to, .ref a_this_on, .ref a_this_load, .ref a_this_lead, .ref a_this_bestLead, .ref a_this_silver])), (a_this_before, .inl (cI, 9, .inl s_2.2)), (a_this_on, .inl (cJ, 512, .inr (.inl v_this_on))), (a_this_st, .inl (cI, 1951, .inl v_this_st)), (a_this_to, .inl (cJ, 512, .inr (.inl v_this_to)))]) (fun s_2 => [(0, .ref a_this), (1, .int p0), (2, .int t_1), (3, .int s_2.1)]) (fun x_3 => [(a_this, .inr (12, [.ref a_this_st, .ref a_this_images, .ref a_this_isKept, .long v_this_above, .long v_this_below, .int v_this_steps, .ref a_this_step, .ref a_this_with, .int v_this_waiting, .ref a_this_waits, .ref a_this_value, .ref a_this_given, .ref a_this_net, .ref a_this_together, .ref a_this_most, .ref a_this_owes, .ref a_this_can, .ref a_this_row, .ref a_this_before, .ref a_this_to, .ref a_this_on, .ref a_this_load, .ref a_this_lead, .ref a_this_bestLead, .ref a_this_silver])), (a_this_before, .inl (cI, 9, .inl x_3.2)), (a_this_on, .inl (cJ, 512, .inr (.inl v_this_on))), (a_this_st, .inl (cI, 1951, .inl v_this_st)), (a_this_to, .inl (cJ, 512, .inr (.inl v_this_to)))]) (fun x_3 => [(0, .ref a_this), (1, .int p0), (2, .int t_1)]) 29 hl_2 rfl rfl ?_ (fun s_2 o h hb_2 hr_2 hx_2 => ?_)
  · skip
    refine ii_iconst dX12_findOrders_29 kc0 ?_
    refine ii_istore_n (lv' := [(3, .int (0 : Int32)), (0, .ref a_this), (1, .int p0), (2, .int t_1)]) dX12_findOrders_30 rfl (by decide) rfl ?_
    refine ii_lv [1, 2, 3, 0] rfl ?_
    obtain ⟨x_7, hl_6, h⟩ := bnd h
    refine ii_loopX (fun s_6 => [(a_this, .inr (12, [.ref a_this_st, .ref a_this_images, .ref a_this_isKept, .long v_this_above, .long v_this_below, .int v_this_steps, .ref a_this_step, .ref a_this_with, .int v_this_waiting, .ref a_this_waits, .ref a_this_value, .ref a_this_given, .ref a_this_net, .ref a_this_together, .ref a_this_most, .ref a_this_owes, .ref a_this_can, .ref a_this_row, .ref a_this_before, .ref a_this_to, .ref a_this_on, .ref a_this_load, .ref a_this_lead, .ref a_this_bestLead, .ref a_this_silver])), (a_this_before, .inl (cI, 9, .inl s_6.2)), (a_this_on, .inl (cJ, 512, .inr (.inl v_this_on))), (a_this_st, .inl (cI, 1951, .inl v_this_st)), (a_this_to, .inl (cJ, 512, .inr (.inl v_this_to)))]) (fun s_6 => [(0, .ref a_this), (1, .int p0), (2, .int t_1), (3, .int s_6.1)]) (fun x_7 => [(a_this, .inr (12, [.ref a_this_st, .ref a_this_images, .ref a_this_isKept, .long v_this_above, .long v_this_below, .int v_this_steps, .ref a_this_step, .ref a_this_with, .int v_this_waiting, .ref a_this_waits, .ref a_this_value, .ref a_this_given, .ref a_this_net, .ref a_this_together, .ref a_this_most, .ref a_this_owes, .ref a_this_can, .ref a_this_row, .ref a_this_before, .ref a_this_to, .ref a_this_on, .ref a_this_load, .ref a_this_lead, .ref a_this_bestLead, .ref a_this_silver])), (a_this_before, .inl (cI, 9, .inl x_7.2)), (a_this_on, .inl (cJ, 512, .inr (.inl v_this_on))), (a_this_st, .inl (cI, 1951, .inl v_this_st)), (a_this_to, .inl (cJ, 512, .inr (.inl v_this_to)))]) (fun x_7 => [(0, .ref a_this), (2, .int t_1)]) 100 hl_6 rfl rfl ?_ (fun s_6 o h hb_6 hr_6 hx_6 => ?_)
    · skip
      refine ii_iconst dX12_findOrders_100 kc1 ?_
      refine ii_iload_n 1 dX12_findOrders_101 rfl ?_
      refine ii_ishl dX12_findOrders_102 ?_
      refine ii_iconst dX12_findOrders_103 kc1 ?_
      refine ii_isub dX12_findOrders_104 ?_
      refine ii_topI h (fun x_17 h => ?_)
      refine ii_istore_n (lv' := [(3, .int x_17), (0, .ref a_this), (2, .int t_1)]) dX12_findOrders_105 rfl (by decide) rfl ?_
      refine ii_iconst dX12_findOrders_106 kc0 ?_
      refine ii_istore (lv' := [(4, .int (0 : Int32)), (3, .int x_17), (0, .ref a_this), (2, .int t_1)]) dX12_findOrders_107 (by decide) rfl ?_
      refine ii_lv [2, 3, 1, 0] rfl ?_
      obtain ⟨x_19, hl_18, h⟩ := bnd h
      refine ii_loopX (fun s_18 => [(a_this, .inr (12, [.ref a_this_st, .ref a_this_images, .ref a_this_isKept, .long v_this_above, .long v_this_below, .int v_this_steps, .ref a_this_step, .ref a_this_with, .int v_this_waiting, .ref a_this_waits, .ref a_this_value, .ref a_this_given, .ref a_this_net, .ref a_this_together, .ref a_this_most, .ref a_this_owes, .ref a_this_can, .ref a_this_row, .ref a_this_before, .ref a_this_to, .ref a_this_on, .ref a_this_load, .ref a_this_lead, .ref a_this_bestLead, .ref a_this_silver])), (a_this_before, .inl (cI, 9, .inl x_7.2)), (a_this_on, .inl (cJ, 512, .inr (.inl v_this_on))), (a_this_st, .inl (cI, 1951, .inl v_this_st)), (a_this_to, .inl (cJ, 512, .inr (.inl s_18.2)))]) (fun s_18 => [(0, .ref a_this), (2, .int t_1), (3, .int x_17), (4, .int s_18.1)]) (fun x_19 => [(a_this, .inr (12, [.ref a_this_st, .ref a_this_images, .ref a_this_isKept, .long v_this_above, .long v_this_below, .int v_this_steps, .ref a_this_step, .ref a_this_with, .int v_this_waiting, .ref a_this_waits, .ref a_this_value, .ref a_this_given, .ref a_this_net, .ref a_this_together, .ref a_this_most, .ref a_this_owes, .ref a_this_can, .ref a_this_row, .ref a_this_before, .ref a_this_to, .ref a_this_on, .ref a_this_load, .ref a_this_lead, .ref a_this_bestLead, .ref a_this_silver])), (a_this_before, .inl (cI, 9, .inl x_7.2)), (a_this_on, .inl (cJ, 512, .inr (.inl v_this_on))), (a_this_st, .inl (cI, 1951, .inl v_this_st)), (a_this_to, .inl (cJ, 512, .inr (.inl x_19.2)))]) (fun x_19 => [(0, .ref a_this), (2, .int t_1), (3, .int x_17)]) 202 hl_18 rfl rfl ?_ (fun s_18 o h hb_18 hr_18 hx_18 => ?_)
      · skip
        refine ii_iload_n 2 dX12_findOrders_202 rfl ?_
        refine ii_istore (lv' := [(4, .int x_17), (0, .ref a_this), (2, .int t_1), (3, .int x_17)]) dX12_findOrders_203 (by decide) rfl ?_
        refine ii_lv [1, 2, 3, 0] rfl ?_
        obtain ⟨x_32, hl_31, h⟩ := bnd h
        refine ii_loopX (fun s_31 => [(a_this, .inr (12, [.ref a_this_st, .ref a_this_images, .ref a_this_isKept, .long v_this_above, .long v_this_below, .int v_this_steps, .ref a_this_step, .ref a_this_with, .int v_this_waiting, .ref a_this_waits, .ref a_this_value, .ref a_this_given, .ref a_this_net, .ref a_this_together, .ref a_this_most, .ref a_this_owes, .ref a_this_can, .ref a_this_row, .ref a_this_before, .ref a_this_to, .ref a_this_on, .ref a_this_load, .ref a_this_lead, .ref a_this_bestLead, .ref a_this_silver])), (a_this_before, .inl (cI, 9, .inl x_7.2)), (a_this_on, .inl (cJ, 512, .inr (.inl s_31.2))), (a_this_st, .inl (cI, 1951, .inl v_this_st)), (a_this_to, .inl (cJ, 512, .inr (.inl x_19.2)))]) (fun s_31 => [(0, .ref a_this), (2, .int t_1), (3, .int x_17), (4, .int s_31.1)]) (fun x_32 => [(a_this, .inr (12, [.ref a_this_st, .ref a_this_images, .ref a_this_isKept, .long v_this_above, .long v_this_below, .int v_this_steps, .ref a_this_step, .ref a_this_with, .int v_this_waiting, .ref a_this_waits, .ref a_this_value, .ref a_this_given, .ref a_this_net, .ref a_this_together, .ref a_this_most, .ref a_this_owes, .ref a_this_can, .ref a_this_row, .ref a_this_before, .ref a_this_to, .ref a_this_on, .ref a_this_load, .ref a_this_lead, .ref a_this_bestLead, .ref a_this_silver])), (a_this_before, .inl (cI, 9, .inl x_7.2)), (a_this_on, .inl (cJ, 512, .inr (.inl x_32.2))), (a_this_st, .inl (cI, 1951, .inl v_this_st)), (a_this_to, .inl (cJ, 512, .inr (.inl x_19.2)))]) (fun x_32 => [(0, .ref a_this)]) 286 hl_31 rfl rfl ?_ (fun s_31 o h hb_31 hr_31 hx_31 => ?_)
        · skip
          refine ii_aload_n 0 dX12_findOrders_286 rfl ?_
          refine ii_get (C := RX12) (T := TX12) (N := 25) (ci := 12) izX12 0 rfl rfl 20 (by decide) kX12_60 rfl dX12_findOrders_287 ?_
          refine ii_iconst dX12_findOrders_290 kc0 ?_
          refine ii_lald h 2 1 rfl rfl dX12_findOrders_291 (fun t_44 h => ?_)
          cases h
          exact hQ _ _ dX12_findOrders_292
        · skip
          refine ii_iload 3 dX12_findOrders_205 rfl ?_
          refine ii_if_lt (tgt := 286) h dX12_findOrders_207 (by decide) (fun h => ?_) (fun h => ?_)
          · skip
            refine ii_lv [0] rfl ?_
            cases h
            exact hx_31 (s_31.1, s_31.2) (hr_31 _ rfl)
          · skip
            refine ii_aload_n 0 dX12_findOrders_210 rfl ?_
            refine ii_get (C := RX12) (T := TX12) (N := 25) (ci := 12) izX12 0 rfl rfl 20 (by decide) kX12_60 rfl dX12_findOrders_211 ?_
            refine ii_iload 3 dX12_findOrders_214 rfl ?_
            refine ii_iload 3 dX12_findOrders_216 rfl ?_
            refine ii_iload_n 2 dX12_findOrders_218 rfl ?_
            refine ii_jn h (fun j_33 => [(a_this, .inr (12, [.ref a_this_st, .ref a_this_images, .ref a_this_isKept, .long v_this_above, .long v_this_below, .int v_this_steps, .ref a_this_step, .ref a_this_with, .int v_this_waiting, .ref a_this_waits, .ref a_this_value, .ref a_this_given, .ref a_this_net, .ref a_this_together, .ref a_this_most, .ref a_this_owes, .ref a_this_can, .ref a_this_row, .ref a_this_before, .ref a_this_to, .ref a_this_on, .ref a_this_load, .ref a_this_lead, .ref a_this_bestLead, .ref a_this_silver])), (a_this_before, .inl (cI, 9, .inl x_7.2)), (a_this_on, .inl (cJ, 512, .inr (.inl s_31.2))), (a_this_st, .inl (cI, 1951, .inl v_this_st)), (a_this_to, .inl (cJ, 512, .inr (.inl x_19.2)))]) (fun j_33 => [(0, .ref a_this), (2, .int t_1), (3, .int x_17), (4, .int s_31.1)]) 227 (fun j_33 => [.long j_33, .int s_31.1, .ref a_this_on]) (fun j_33 h => ?_) (fun j_33 h hjj_33 => ?_)
            · skip
              refine ii_last (fun g_34 => [(a_this, .inr (12, [.ref a_this_st, .ref a_this_images, .ref a_this_isKept, .long v_this_above, .long v_this_below, .int v_this_steps, .ref a_this_step, .ref a_this_with, .int v_this_waiting, .ref a_this_waits, .ref a_this_value, .ref a_this_given, .ref a_this_net, .ref a_this_together, .ref a_this_most, .ref a_this_owes, .ref a_this_can, .ref a_this_row, .ref a_this_before, .ref a_this_to, .ref a_this_on, .ref a_this_load, .ref a_this_lead, .ref a_this_bestLead, .ref a_this_silver])), (a_this_before, .inl (cI, 9, .inl x_7.2)), (a_this_on, .inl (cJ, 512, .inr (.inl g_34))), (a_this_st, .inl (cI, 1951, .inl v_this_st)), (a_this_to, .inl (cJ, 512, .inr (.inl x_19.2)))]) h 2 1 rfl rfl dX12_findOrders_227 (fun _ => rfl) (fun g_34 h => ?_)
              refine ii_iconst dX12_findOrders_228 kc0 ?_
              refine ii_istore (lv' := [(5, .int (0 : Int32)), (0, .ref a_this), (2, .int t_1), (3, .int x_17), (4, .int s_31.1)]) dX12_findOrders_229 (by decide) rfl ?_
              refine ii_lv [1, 2, 3, 4, 0] rfl ?_
              obtain ⟨x_36, hl_35, h⟩ := bnd h
              refine ii_loopX (fun s_35 => [(a_this, .inr (12, [.ref a_this_st, .ref a_this_images, .ref a_this_isKept, .long v_this_above, .long v_this_below, .int v_this_steps, .ref a_this_step, .ref a_this_with, .int v_this_waiting, .ref a_this_waits, .ref a_this_value, .ref a_this_given, .ref a_this_net, .ref a_this_together, .ref a_this_most, .ref a_this_owes, .ref a_this_can, .ref a_this_row, .ref a_this_before, .ref a_this_to, .ref a_this_on, .ref a_this_load, .ref a_this_lead, .ref a_this_bestLead, .ref a_this_silver])), (a_this_before, .inl (cI, 9, .inl x_7.2)), (a_this_on, .inl (cJ, 512, .inr (.inl s_35.2))), (a_this_st, .inl (cI, 1951, .inl v_this_st)), (a_this_to, .inl (cJ, 512, .inr (.inl x_19.2)))]) (fun s_35 => [(0, .ref a_this), (2, .int t_1), (3, .int x_17), (4, .int s_31.1), (5, .int s_35.1)]) (fun x_36 => [(a_this, .inr (12, [.ref a_this_st, .ref a_this_images, .ref a_this_isKept, .long v_this_above, .long v_this_below, .int v_this_steps, .ref a_this_step, .ref a_this_with, .int v_this_waiting, .ref a_this_waits, .ref a_this_value, .ref a_this_given, .ref a_this_net, .ref a_this_together, .ref a_this_most, .ref a_this_owes, .ref a_this_can, .ref a_this_row, .ref a_this_before, .ref a_this_to, .ref a_this_on, .ref a_this_load, .ref a_this_lead, .ref a_this_bestLead, .ref a_this_silver])), (a_this_before, .inl (cI, 9, .inl x_7.2)), (a_this_on, .inl (cJ, 512, .inr (.inl x_36.2))), (a_this_st, .inl (cI, 1951, .inl v_this_st)), (a_this_to, .inl (cJ, 512, .inr (.inl x_19.2)))]) (fun x_36 => [(0, .ref a_this), (2, .int t_1), (3, .int x_17), (4, .int s_31.1)]) 280 hl_35 rfl rfl ?_ (fun s_35 o h hb_35 hr_35 hx_35 => ?_)
              · skip
                refine ii_iinc (fun x_43 => [(4, .int x_43), (0, .ref a_this), (2, .int t_1), (3, .int x_17)]) h 3 dX12_findOrders_280 rfl kcm1 (by decide) (fun _ => rfl) (fun x_43 h => ?_)
                refine ii_goto (tgt := 205) dX12_findOrders_283 (by decide) ?_
                refine ii_lv [1, 2, 3, 0] rfl ?_
                cases h
                exact hb_31 (x_43, x_36.2) rfl
              · skip
                refine ii_iload 4 dX12_findOrders_231 rfl ?_
                refine ii_iload_n 1 dX12_findOrders_233 rfl ?_
                refine ii_icmp_ge (tgt := 280) h dX12_findOrders_234 (by decide) (fun h => ?_) (fun h => ?_)
                · skip
                  refine ii_lv [0, 1, 2, 3] rfl ?_
                  cases h
                  exact hx_35 (s_35.1, s_35.2) (hr_35 _ rfl)
                · skip
                  refine ii_aload_n 0 dX12_findOrders_237 rfl ?_
                  refine ii_get (C := RX12) (T := TX12) (N := 25) (ci := 12) izX12 0 rfl rfl 20 (by decide) kX12_60 rfl dX12_findOrders_238 ?_
                  refine ii_iload 3 dX12_findOrders_241 rfl ?_
                  refine ii_dup2 dX12_findOrders_243 rfl rfl ?_
                  refine ii_lald h 2 1 rfl rfl dX12_findOrders_244 (fun t_37 h => ?_)
                  refine ii_aload_n 0 dX12_findOrders_245 rfl ?_
                  refine ii_iload 3 dX12_findOrders_246 rfl ?_
                  refine ii_iload 4 dX12_findOrders_248 rfl ?_
                  obtain ⟨c_38, hc_38, h⟩ := bnd h
                  refine ii_callVi (As := [.int s_31.1, .int s_35.1]) (ws' := [(a_this, .inr (12, [.ref a_this_st, .ref a_this_images, .ref a_this_isKept, .long v_this_above, .long v_this_below, .int v_this_steps, .ref a_this_step, .ref a_this_with, .int v_this_waiting, .ref a_this_waits, .ref a_this_value, .ref a_this_given, .ref a_this_net, .ref a_this_together, .ref a_this_most, .ref a_this_owes, .ref a_this_can, .ref a_this_row, .ref a_this_before, .ref a_this_to, .ref a_this_on, .ref a_this_load, .ref a_this_lead, .ref a_this_bestLead, .ref a_this_silver])), (a_this_before, .inl (cI, 9, .inl x_7.2)), (a_this_on, .inl (cJ, 512, .inr (.inl s_35.2))), (a_this_st, .inl (cI, 1951, .inl v_this_st)), (a_this_to, .inl (cJ, 512, .inr (.inl x_19.2)))]) (st := [.long t_37, .int s_31.1, .ref a_this_on]) (c_X12_mayCome l D cI cJ cZ cH a_this a_this_before a_this_bestLead a_this_can a_this_given a_this_images a_this_isKept a_this_lead a_this_load a_this_most a_this_net a_this_on a_this_owes a_this_row a_this_silver a_this_st a_this_step a_this_to a_this_together a_this_value a_this_waits a_this_with v_this_above x_7.2 v_this_below v_this_steps v_this_waiting s_31.1 s_35.1 hc_38) gzX12_253 rfl rfl rfl eV_X12_mayCome ⟨Nat.le_of_ble_eq_true rfl, Nat.le_of_ble_eq_true rfl⟩ rfl 0 rfl rfl [0, 1] rfl rfl rfl rfl rfl (Nat.le_of_ble_eq_true rfl) (Nat.le_refl _) (Nat.le_refl _) rfl dX12_findOrders_250 ?_
                  refine ii_jn h (fun j_39 => [(a_this, .inr (12, [.ref a_this_st, .ref a_this_images, .ref a_this_isKept, .long v_this_above, .long v_this_below, .int v_this_steps, .ref a_this_step, .ref a_this_with, .int v_this_waiting, .ref a_this_waits, .ref a_this_value, .ref a_this_given, .ref a_this_net, .ref a_this_together, .ref a_this_most, .ref a_this_owes, .ref a_this_can, .ref a_this_row, .ref a_this_before, .ref a_this_to, .ref a_this_on, .ref a_this_load, .ref a_this_lead, .ref a_this_bestLead, .ref a_this_silver])), (a_this_before, .inl (cI, 9, .inl x_7.2)), (a_this_on, .inl (cJ, 512, .inr (.inl s_35.2))), (a_this_st, .inl (cI, 1951, .inl v_this_st)), (a_this_to, .inl (cJ, 512, .inr (.inl x_19.2)))]) (fun j_39 => [(0, .ref a_this), (2, .int t_1), (3, .int x_17), (4, .int s_31.1), (5, .int s_35.1)]) 272 (fun j_39 => [.long j_39, .long t_37, .int s_31.1, .ref a_this_on]) (fun j_39 h => ?_) (fun j_39 h hjj_39 => ?_)
                  · skip
                    refine ii_ladd dX12_findOrders_272 ?_
                    refine ii_last (fun g_41 => [(a_this, .inr (12, [.ref a_this_st, .ref a_this_images, .ref a_this_isKept, .long v_this_above, .long v_this_below, .int v_this_steps, .ref a_this_step, .ref a_this_with, .int v_this_waiting, .ref a_this_waits, .ref a_this_value, .ref a_this_given, .ref a_this_net, .ref a_this_together, .ref a_this_most, .ref a_this_owes, .ref a_this_can, .ref a_this_row, .ref a_this_before, .ref a_this_to, .ref a_this_on, .ref a_this_load, .ref a_this_lead, .ref a_this_bestLead, .ref a_this_silver])), (a_this_before, .inl (cI, 9, .inl x_7.2)), (a_this_on, .inl (cJ, 512, .inr (.inl g_41))), (a_this_st, .inl (cI, 1951, .inl v_this_st)), (a_this_to, .inl (cJ, 512, .inr (.inl x_19.2)))]) h 2 1 rfl rfl dX12_findOrders_273 (fun _ => rfl) (fun g_41 h => ?_)
                    refine ii_iinc (fun x_42 => [(5, .int x_42), (0, .ref a_this), (2, .int t_1), (3, .int x_17), (4, .int s_31.1)]) h 4 dX12_findOrders_274 rfl kc1 (by decide) (fun _ => rfl) (fun x_42 h => ?_)
                    refine ii_goto (tgt := 231) dX12_findOrders_277 (by decide) ?_
                    refine ii_lv [1, 2, 3, 4, 0] rfl ?_
                    cases h
                    exact hb_35 (x_42, g_41) rfl
                  · skip
                    refine ii_if_eq (tgt := 271) h dX12_findOrders_253 (by decide) (fun h => ?_) (fun h => ?_)
                    · skip
                      refine ii_lconst dX12_findOrders_271 kl0 ?_
                      cases h
                      exact hjj_39
                    · skip
                      refine ii_aload_n 0 dX12_findOrders_256 rfl ?_
                      refine ii_get (C := RX12) (T := TX12) (N := 25) (ci := 12) izX12 0 rfl rfl 20 (by decide) kX12_60 rfl dX12_findOrders_257 ?_
                      refine ii_iload 3 dX12_findOrders_260 rfl ?_
                      refine ii_iconst dX12_findOrders_262 kc1 ?_
                      refine ii_iload 4 dX12_findOrders_263 rfl ?_
                      refine ii_ishl dX12_findOrders_265 ?_
                      refine ii_ior dX12_findOrders_266 ?_
                      refine ii_lald h 2 1 rfl rfl dX12_findOrders_267 (fun t_40 h => ?_)
                      refine ii_goto (tgt := 272) dX12_findOrders_268 (by decide) ?_
                      cases h
                      exact hjj_39
            · skip
              refine ii_icmp_ne (tgt := 226) h dX12_findOrders_219 (by decide) (fun h => ?_) (fun h => ?_)
              · skip
                refine ii_lconst dX12_findOrders_226 kl0 ?_
                cases h
                exact hjj_33
              · skip
                refine ii_lconst dX12_findOrders_222 kl1 ?_
                refine ii_goto (tgt := 227) dX12_findOrders_223 (by decide) ?_
                cases h
                exact hjj_33
      · skip
        refine ii_iload 3 dX12_findOrders_109 rfl ?_
        refine ii_iload_n 2 dX12_findOrders_111 rfl ?_
        refine ii_icmp_gt (tgt := 202) h dX12_findOrders_112 (by decide) (fun h => ?_) (fun h => ?_)
        · skip
          refine ii_lv [0, 1, 2] rfl ?_
          cases h
          exact hx_18 (s_18.1, s_18.2) (hr_18 _ rfl)
        · skip
          refine ii_aload_n 0 dX12_findOrders_115 rfl ?_
          refine ii_get (C := RX12) (T := TX12) (N := 25) (ci := 12) izX12 0 rfl rfl 19 (by decide) kX12_57 rfl dX12_findOrders_116 ?_
          refine ii_iload 3 dX12_findOrders_119 rfl ?_
          refine ii_iload 3 dX12_findOrders_121 rfl ?_
          refine ii_jn h (fun j_20 => [(a_this, .inr (12, [.ref a_this_st, .ref a_this_images, .ref a_this_isKept, .long v_this_above, .long v_this_below, .int v_this_steps, .ref a_this_step, .ref a_this_with, .int v_this_waiting, .ref a_this_waits, .ref a_this_value, .ref a_this_given, .ref a_this_net, .ref a_this_together, .ref a_this_most, .ref a_this_owes, .ref a_this_can, .ref a_this_row, .ref a_this_before, .ref a_this_to, .ref a_this_on, .ref a_this_load, .ref a_this_lead, .ref a_this_bestLead, .ref a_this_silver])), (a_this_before, .inl (cI, 9, .inl x_7.2)), (a_this_on, .inl (cJ, 512, .inr (.inl v_this_on))), (a_this_st, .inl (cI, 1951, .inl v_this_st)), (a_this_to, .inl (cJ, 512, .inr (.inl s_18.2)))]) (fun j_20 => [(0, .ref a_this), (2, .int t_1), (3, .int x_17), (4, .int s_18.1)]) 131 (fun j_20 => [.long j_20, .int s_18.1, .ref a_this_to]) (fun j_20 h => ?_) (fun j_20 h hjj_20 => ?_)
          · skip
            refine ii_last (fun g_21 => [(a_this, .inr (12, [.ref a_this_st, .ref a_this_images, .ref a_this_isKept, .long v_this_above, .long v_this_below, .int v_this_steps, .ref a_this_step, .ref a_this_with, .int v_this_waiting, .ref a_this_waits, .ref a_this_value, .ref a_this_given, .ref a_this_net, .ref a_this_together, .ref a_this_most, .ref a_this_owes, .ref a_this_can, .ref a_this_row, .ref a_this_before, .ref a_this_to, .ref a_this_on, .ref a_this_load, .ref a_this_lead, .ref a_this_bestLead, .ref a_this_silver])), (a_this_before, .inl (cI, 9, .inl x_7.2)), (a_this_on, .inl (cJ, 512, .inr (.inl v_this_on))), (a_this_st, .inl (cI, 1951, .inl v_this_st)), (a_this_to, .inl (cJ, 512, .inr (.inl g_21)))]) h 4 1 rfl rfl dX12_findOrders_131 (fun _ => rfl) (fun g_21 h => ?_)
            refine ii_iconst dX12_findOrders_132 kc0 ?_
            refine ii_istore (lv' := [(5, .int (0 : Int32)), (0, .ref a_this), (2, .int t_1), (3, .int x_17), (4, .int s_18.1)]) dX12_findOrders_133 (by decide) rfl ?_
            refine ii_lv [1, 2, 3, 4, 0] rfl ?_
            obtain ⟨x_23, hl_22, h⟩ := bnd h
            refine ii_loopX (fun s_22 => [(a_this, .inr (12, [.ref a_this_st, .ref a_this_images, .ref a_this_isKept, .long v_this_above, .long v_this_below, .int v_this_steps, .ref a_this_step, .ref a_this_with, .int v_this_waiting, .ref a_this_waits, .ref a_this_value, .ref a_this_given, .ref a_this_net, .ref a_this_together, .ref a_this_most, .ref a_this_owes, .ref a_this_can, .ref a_this_row, .ref a_this_before, .ref a_this_to, .ref a_this_on, .ref a_this_load, .ref a_this_lead, .ref a_this_bestLead, .ref a_this_silver])), (a_this_before, .inl (cI, 9, .inl x_7.2)), (a_this_on, .inl (cJ, 512, .inr (.inl v_this_on))), (a_this_st, .inl (cI, 1951, .inl v_this_st)), (a_this_to, .inl (cJ, 512, .inr (.inl s_22.2)))]) (fun s_22 => [(0, .ref a_this), (2, .int t_1), (3, .int x_17), (4, .int s_18.1), (5, .int s_22.1)]) (fun x_23 => [(a_this, .inr (12, [.ref a_this_st, .ref a_this_images, .ref a_this_isKept, .long v_this_above, .long v_this_below, .int v_this_steps, .ref a_this_step, .ref a_this_with, .int v_this_waiting, .ref a_this_waits, .ref a_this_value, .ref a_this_given, .ref a_this_net, .ref a_this_together, .ref a_this_most, .ref a_this_owes, .ref a_this_can, .ref a_this_row, .ref a_this_before, .ref a_this_to, .ref a_this_on, .ref a_this_load, .ref a_this_lead, .ref a_this_bestLead, .ref a_this_silver])), (a_this_before, .inl (cI, 9, .inl x_7.2)), (a_this_on, .inl (cJ, 512, .inr (.inl v_this_on))), (a_this_st, .inl (cI, 1951, .inl v_this_st)), (a_this_to, .inl (cJ, 512, .inr (.inl x_23.2)))]) (fun x_23 => [(0, .ref a_this), (2, .int t_1), (3, .int x_17), (4, .int s_18.1)]) 196 hl_22 rfl rfl ?_ (fun s_22 o h hb_22 hr_22 hx_22 => ?_)
            · skip
              refine ii_iinc (fun x_30 => [(4, .int x_30), (0, .ref a_this), (2, .int t_1), (3, .int x_17)]) h 3 dX12_findOrders_196 rfl kc1 (by decide) (fun _ => rfl) (fun x_30 h => ?_)
              refine ii_goto (tgt := 109) dX12_findOrders_199 (by decide) ?_
              refine ii_lv [1, 2, 3, 0] rfl ?_
              cases h
              exact hb_18 (x_30, x_23.2) rfl
            · skip
              refine ii_iload 4 dX12_findOrders_135 rfl ?_
              refine ii_iload_n 1 dX12_findOrders_137 rfl ?_
              refine ii_icmp_ge (tgt := 196) h dX12_findOrders_138 (by decide) (fun h => ?_) (fun h => ?_)
              · skip
                refine ii_lv [0, 1, 2, 3] rfl ?_
                cases h
                exact hx_22 (s_22.1, s_22.2) (hr_22 _ rfl)
              · skip
                refine ii_iload 3 dX12_findOrders_141 rfl ?_
                refine ii_iload 4 dX12_findOrders_143 rfl ?_
                refine ii_ishr dX12_findOrders_145 ?_
                refine ii_iconst dX12_findOrders_146 kc1 ?_
                refine ii_iand dX12_findOrders_147 ?_
                refine ii_iconst dX12_findOrders_148 kc1 ?_
                refine ii_jn h (fun j_24 => [(a_this, .inr (12, [.ref a_this_st, .ref a_this_images, .ref a_this_isKept, .long v_this_above, .long v_this_below, .int v_this_steps, .ref a_this_step, .ref a_this_with, .int v_this_waiting, .ref a_this_waits, .ref a_this_value, .ref a_this_given, .ref a_this_net, .ref a_this_together, .ref a_this_most, .ref a_this_owes, .ref a_this_can, .ref a_this_row, .ref a_this_before, .ref a_this_to, .ref a_this_on, .ref a_this_load, .ref a_this_lead, .ref a_this_bestLead, .ref a_this_silver])), (a_this_before, .inl (cI, 9, .inl x_7.2)), (a_this_on, .inl (cJ, 512, .inr (.inl v_this_on))), (a_this_st, .inl (cI, 1951, .inl v_this_st)), (a_this_to, .inl (cJ, 512, .inr (.inl j_24)))]) (fun j_24 => [(0, .ref a_this), (2, .int t_1), (3, .int x_17), (4, .int s_18.1), (5, .int s_22.1)]) 190 (fun j_24 => []) (fun j_24 h => ?_) (fun j_24 h hjj_24 => ?_)
                · skip
                  refine ii_iinc (fun x_29 => [(5, .int x_29), (0, .ref a_this), (2, .int t_1), (3, .int x_17), (4, .int s_18.1)]) h 4 dX12_findOrders_190 rfl kc1 (by decide) (fun _ => rfl) (fun x_29 h => ?_)
                  refine ii_goto (tgt := 135) dX12_findOrders_193 (by decide) ?_
                  refine ii_lv [1, 2, 3, 4, 0] rfl ?_
                  cases h
                  exact hb_22 (x_29, j_24) rfl
                · skip
                  refine ii_icmp_ne (tgt := 190) h dX12_findOrders_149 (by decide) (fun h => ?_) (fun h => ?_)
                  · skip
                    cases h
                    exact hjj_24
                  · skip
                    refine ii_aload_n 0 dX12_findOrders_152 rfl ?_
                    refine ii_iload 3 dX12_findOrders_153 rfl ?_
                    refine ii_iconst dX12_findOrders_155 kc1 ?_
                    refine ii_iload 4 dX12_findOrders_156 rfl ?_
                    refine ii_ishl dX12_findOrders_158 ?_
                    refine ii_ixor dX12_findOrders_159 ?_
                    refine ii_iload 4 dX12_findOrders_160 rfl ?_
                    obtain ⟨c_25, hc_25, h⟩ := bnd h
                    refine ii_callVi (As := [.int (s_18.1 ^^^ ((1 : Int32) <<< (s_22.1 &&& 31))), .int s_22.1]) (ws' := [(a_this, .inr (12, [.ref a_this_st, .ref a_this_images, .ref a_this_isKept, .long v_this_above, .long v_this_below, .int v_this_steps, .ref a_this_step, .ref a_this_with, .int v_this_waiting, .ref a_this_waits, .ref a_this_value, .ref a_this_given, .ref a_this_net, .ref a_this_together, .ref a_this_most, .ref a_this_owes, .ref a_this_can, .ref a_this_row, .ref a_this_before, .ref a_this_to, .ref a_this_on, .ref a_this_load, .ref a_this_lead, .ref a_this_bestLead, .ref a_this_silver])), (a_this_before, .inl (cI, 9, .inl x_7.2)), (a_this_on, .inl (cJ, 512, .inr (.inl v_this_on))), (a_this_st, .inl (cI, 1951, .inl v_this_st)), (a_this_to, .inl (cJ, 512, .inr (.inl s_22.2)))]) (st := []) (c_X12_mayCome l D cI cJ cZ cH a_this a_this_before a_this_bestLead a_this_can a_this_given a_this_images a_this_isKept a_this_lead a_this_load a_this_most a_this_net a_this_on a_this_owes a_this_row a_this_silver a_this_st a_this_step a_this_to a_this_together a_this_value a_this_waits a_this_with v_this_above x_7.2 v_this_below v_this_steps v_this_waiting (s_18.1 ^^^ ((1 : Int32) <<< (s_22.1 &&& 31))) s_22.1 hc_25) gzX12_253 rfl rfl rfl eV_X12_mayCome ⟨Nat.le_of_ble_eq_true rfl, Nat.le_of_ble_eq_true rfl⟩ rfl 0 rfl rfl [0, 1] rfl rfl rfl rfl rfl (Nat.le_of_ble_eq_true rfl) (Nat.le_refl _) (Nat.le_refl _) rfl dX12_findOrders_162 ?_
                    refine ii_if_eq (tgt := 190) h dX12_findOrders_165 (by decide) (fun h => ?_) (fun h => ?_)
                    · skip
                      cases h
                      exact hjj_24
                    · skip
                      refine ii_aload_n 0 dX12_findOrders_168 rfl ?_
                      refine ii_get (C := RX12) (T := TX12) (N := 25) (ci := 12) izX12 0 rfl rfl 19 (by decide) kX12_57 rfl dX12_findOrders_169 ?_
                      refine ii_iload 3 dX12_findOrders_172 rfl ?_
                      refine ii_dup2 dX12_findOrders_174 rfl rfl ?_
                      refine ii_lald h 4 1 rfl rfl dX12_findOrders_175 (fun t_26 h => ?_)
                      refine ii_aload_n 0 dX12_findOrders_176 rfl ?_
                      refine ii_get (C := RX12) (T := TX12) (N := 25) (ci := 12) izX12 0 rfl rfl 19 (by decide) kX12_57 rfl dX12_findOrders_177 ?_
                      refine ii_iload 3 dX12_findOrders_180 rfl ?_
                      refine ii_iconst dX12_findOrders_182 kc1 ?_
                      refine ii_iload 4 dX12_findOrders_183 rfl ?_
                      refine ii_ishl dX12_findOrders_185 ?_
                      refine ii_ixor dX12_findOrders_186 ?_
                      refine ii_lald h 4 1 rfl rfl dX12_findOrders_187 (fun t_27 h => ?_)
                      refine ii_ladd dX12_findOrders_188 ?_
                      refine ii_last (fun g_28 => [(a_this, .inr (12, [.ref a_this_st, .ref a_this_images, .ref a_this_isKept, .long v_this_above, .long v_this_below, .int v_this_steps, .ref a_this_step, .ref a_this_with, .int v_this_waiting, .ref a_this_waits, .ref a_this_value, .ref a_this_given, .ref a_this_net, .ref a_this_together, .ref a_this_most, .ref a_this_owes, .ref a_this_can, .ref a_this_row, .ref a_this_before, .ref a_this_to, .ref a_this_on, .ref a_this_load, .ref a_this_lead, .ref a_this_bestLead, .ref a_this_silver])), (a_this_before, .inl (cI, 9, .inl x_7.2)), (a_this_on, .inl (cJ, 512, .inr (.inl v_this_on))), (a_this_st, .inl (cI, 1951, .inl v_this_st)), (a_this_to, .inl (cJ, 512, .inr (.inl g_28)))]) h 4 1 rfl rfl dX12_findOrders_189 (fun _ => rfl) (fun g_28 h => ?_)
                      cases h
                      exact hjj_24
          · skip
            refine ii_if_ne (tgt := 130) h dX12_findOrders_123 (by decide) (fun h => ?_) (fun h => ?_)
            · skip
              refine ii_lconst dX12_findOrders_130 kl0 ?_
              cases h
              exact hjj_20
            · skip
              refine ii_lconst dX12_findOrders_126 kl1 ?_
              refine ii_goto (tgt := 131) dX12_findOrders_127 (by decide) ?_
              cases h
              exact hjj_20
    · skip
      refine ii_iload_n 3 dX12_findOrders_31 rfl ?_
      refine ii_aload_n 0 dX12_findOrders_32 rfl ?_
      refine ii_get (C := RX12) (T := TX12) (N := 25) (ci := 12) izX12 0 rfl rfl 0 (by decide) kX12_7 rfl dX12_findOrders_33 ?_
      refine ii_bipush dX12_findOrders_36 kb7 ?_
      refine ii_iald h 3 0 rfl rfl dX12_findOrders_38 (fun t_8 h => ?_)
      refine ii_icmp_ge (tgt := 100) h dX12_findOrders_39 (by decide) (fun h => ?_) (fun h => ?_)
      · skip
        refine ii_lv [0, 2] rfl ?_
        cases h
        exact hx_6 (s_6.1, s_6.2) (hr_6 _ rfl)
      · skip
        refine ii_sipush dX12_findOrders_42 ks1633 ?_
        refine ii_iconst dX12_findOrders_45 kc3 ?_
        refine ii_iload_n 3 dX12_findOrders_46 rfl ?_
        refine ii_imul dX12_findOrders_47 ?_
        refine ii_iadd dX12_findOrders_48 ?_
        refine ii_topI h (fun x_9 h => ?_)
        refine ii_istore (lv' := [(4, .int x_9), (0, .ref a_this), (1, .int p0), (2, .int t_1), (3, .int s_6.1)]) dX12_findOrders_49 (by decide) rfl ?_
        refine ii_aload_n 1 dX12_findOrders_51 rfl ?_
        refine ii_get (C := RX12) (T := TX12) (N := 25) (ci := 12) izX12 0 rfl rfl 18 (by decide) kX12_54 rfl dX12_findOrders_52 ?_
        refine ii_aload_n 1 dX12_findOrders_55 rfl ?_
        refine ii_get (C := RX12) (T := TX12) (N := 25) (ci := 12) izX12 0 rfl rfl 0 (by decide) kX12_7 rfl dX12_findOrders_56 ?_
        refine ii_iload 0 dX12_findOrders_59 rfl ?_
        refine ii_iconst dX12_findOrders_61 kc1 ?_
        refine ii_iadd dX12_findOrders_62 ?_
        refine ii_iald h 3 0 rfl rfl dX12_findOrders_63 (fun t_10 h => ?_)
        refine ii_dup2 dX12_findOrders_64 rfl rfl ?_
        refine ii_iald h 1 0 rfl rfl dX12_findOrders_65 (fun t_11 h => ?_)
        refine ii_aload_n 1 dX12_findOrders_66 rfl ?_
        refine ii_get (C := RX12) (T := TX12) (N := 25) (ci := 12) izX12 0 rfl rfl 0 (by decide) kX12_7 rfl dX12_findOrders_67 ?_
        refine ii_iload 0 dX12_findOrders_70 rfl ?_
        refine ii_iconst dX12_findOrders_72 kc2 ?_
        refine ii_iadd dX12_findOrders_73 ?_
        refine ii_iald h 3 0 rfl rfl dX12_findOrders_74 (fun t_12 h => ?_)
        refine ii_iload_n 2 dX12_findOrders_75 rfl ?_
        refine ii_jn h (fun j_13 => [(a_this, .inr (12, [.ref a_this_st, .ref a_this_images, .ref a_this_isKept, .long v_this_above, .long v_this_below, .int v_this_steps, .ref a_this_step, .ref a_this_with, .int v_this_waiting, .ref a_this_waits, .ref a_this_value, .ref a_this_given, .ref a_this_net, .ref a_this_together, .ref a_this_most, .ref a_this_owes, .ref a_this_can, .ref a_this_row, .ref a_this_before, .ref a_this_to, .ref a_this_on, .ref a_this_load, .ref a_this_lead, .ref a_this_bestLead, .ref a_this_silver])), (a_this_before, .inl (cI, 9, .inl s_6.2)), (a_this_on, .inl (cJ, 512, .inr (.inl v_this_on))), (a_this_st, .inl (cI, 1951, .inl v_this_st)), (a_this_to, .inl (cJ, 512, .inr (.inl v_this_to)))]) (fun j_13 => [(0, .ref a_this), (1, .int p0), (2, .int t_1), (3, .int s_6.1)]) 92 (fun j_13 => [.int j_13, .int t_11, .int t_10, .ref a_this_before]) (fun j_13 h => ?_) (fun j_13 h hjj_13 => ?_)
        · skip
          refine ii_ior dX12_findOrders_92 ?_
          refine ii_iast (fun g_15 => [(a_this, .inr (12, [.ref a_this_st, .ref a_this_images, .ref a_this_isKept, .long v_this_above, .long v_this_below, .int v_this_steps, .ref a_this_step, .ref a_this_with, .int v_this_waiting, .ref a_this_waits, .ref a_this_value, .ref a_this_given, .ref a_this_net, .ref a_this_together, .ref a_this_most, .ref a_this_owes, .ref a_this_can, .ref a_this_row, .ref a_this_before, .ref a_this_to, .ref a_this_on, .ref a_this_load, .ref a_this_lead, .ref a_this_bestLead, .ref a_this_silver])), (a_this_before, .inl (cI, 9, .inl g_15)), (a_this_on, .inl (cJ, 512, .inr (.inl v_this_on))), (a_this_st, .inl (cI, 1951, .inl v_this_st)), (a_this_to, .inl (cJ, 512, .inr (.inl v_this_to)))]) h 1 0 rfl rfl dX12_findOrders_93 (fun _ => rfl) (fun g_15 h => ?_)
          refine ii_iinc (fun x_16 => [(3, .int x_16), (0, .ref a_this), (1, .int p0), (2, .int t_1)]) h 3 dX12_findOrders_94 rfl kc1 (by decide) (fun _ => rfl) (fun x_16 h => ?_)
          refine ii_goto (tgt := 31) dX12_findOrders_97 (by decide) ?_
          refine ii_lv [1, 2, 3, 0] rfl ?_
          cases h
          exact hb_6 (x_16, g_15) rfl
        · skip
          refine ii_icmp_gt (tgt := 91) h dX12_findOrders_76 (by decide) (fun h => ?_) (fun h => ?_)
          · skip
            refine ii_iconst dX12_findOrders_91 kc0 ?_
            refine ii_lv [1, 2, 3, 4] rfl ?_
            cases h
            exact hjj_13
          · skip
            refine ii_iconst dX12_findOrders_79 kc1 ?_
            refine ii_aload_n 1 dX12_findOrders_80 rfl ?_
            refine ii_get (C := RX12) (T := TX12) (N := 25) (ci := 12) izX12 0 rfl rfl 0 (by decide) kX12_7 rfl dX12_findOrders_81 ?_
            refine ii_iload 0 dX12_findOrders_84 rfl ?_
            refine ii_iald h 3 0 rfl rfl dX12_findOrders_86 (fun t_14 h => ?_)
            refine ii_ishl dX12_findOrders_87 ?_
            refine ii_goto (tgt := 92) dX12_findOrders_88 (by decide) ?_
            refine ii_lv [1, 2, 3, 4] rfl ?_
            cases h
            exact hjj_13
  · skip
    refine ii_iload_n 3 dX12_findOrders_10 rfl ?_
    refine ii_bipush dX12_findOrders_11 kb9 ?_
    refine ii_icmp_ge (tgt := 29) h dX12_findOrders_13 (by decide) (fun h => ?_) (fun h => ?_)
    · skip
      refine ii_lv [0, 1, 2] rfl ?_
      cases h
      exact hx_2 (s_2.1, s_2.2) (hr_2 _ rfl)
    · skip
      refine ii_aload_n 0 dX12_findOrders_16 rfl ?_
      refine ii_get (C := RX12) (T := TX12) (N := 25) (ci := 12) izX12 0 rfl rfl 18 (by decide) kX12_54 rfl dX12_findOrders_17 ?_
      refine ii_iload_n 3 dX12_findOrders_20 rfl ?_
      refine ii_iconst dX12_findOrders_21 kc0 ?_
      refine ii_iast (fun g_4 => [(a_this, .inr (12, [.ref a_this_st, .ref a_this_images, .ref a_this_isKept, .long v_this_above, .long v_this_below, .int v_this_steps, .ref a_this_step, .ref a_this_with, .int v_this_waiting, .ref a_this_waits, .ref a_this_value, .ref a_this_given, .ref a_this_net, .ref a_this_together, .ref a_this_most, .ref a_this_owes, .ref a_this_can, .ref a_this_row, .ref a_this_before, .ref a_this_to, .ref a_this_on, .ref a_this_load, .ref a_this_lead, .ref a_this_bestLead, .ref a_this_silver])), (a_this_before, .inl (cI, 9, .inl g_4)), (a_this_on, .inl (cJ, 512, .inr (.inl v_this_on))), (a_this_st, .inl (cI, 1951, .inl v_this_st)), (a_this_to, .inl (cJ, 512, .inr (.inl v_this_to)))]) h 1 0 rfl rfl dX12_findOrders_22 (fun _ => rfl) (fun g_4 h => ?_)
      refine ii_iinc (fun x_5 => [(3, .int x_5), (0, .ref a_this), (1, .int p0), (2, .int t_1)]) h 3 dX12_findOrders_23 rfl kc1 (by decide) (fun _ => rfl) (fun x_5 h => ?_)
      refine ii_goto (tgt := 10) dX12_findOrders_26 (by decide) ?_
      refine ii_lv [1, 2, 3, 0] rfl ?_
      cases h
      exact hb_2 (x_5, g_4) rfl
set_option maxHeartbeats 4000000 in
set_option maxRecDepth 100000 in
theorem c_X12_isKnown (l : Launch) (D : va_G) (cI cJ cZ cH : ClassId) (p0 : Int32) {res : Int32} (h : F_X12_isKnown p0 = some res) : CTi l yX12_isKnown wzX12_isKnown { frames := 1, cells := 0, slots := 0, locals := 25 } D [(cI, .int), (cJ, .long), (cZ, .boolean), (cH, .object "TinHouse$House")] [.int p0] [] res [] := by
  unfold F_X12_isKnown at h
  refine ii_metZ (own := RX12) (lv0 := [(0, .int p0)]) (by decide) rfl rfl rfl (Nat.le_of_ble_eq_true rfl) (fun {p e s m args below meth c A Q} hQ => ?_)
  refine ii_iload_n 0 dX12_isKnown_0 rfl ?_
  refine ii_i2l dX12_isKnown_1 ?_
  refine ii_lconst dX12_isKnown_2 kl0 ?_
  refine ii_ldc2 (v := 99) dX12_isKnown_3 kX12_83 ?_
  obtain ⟨c_1, hc_1, h⟩ := bnd h
  refine ii_callSi (As := [.long p0.toInt64, .long (0 : Int64), .long (99 : Int64)]) (ws' := []) (st := []) (c_X12_in l D cI cJ cZ cH p0.toInt64 (0 : Int64) (99 : Int64) hc_1) gzX12_79 rfl rfl rfl eS_X12_in ⟨Nat.le_of_ble_eq_true rfl, Nat.le_of_ble_eq_true rfl⟩ rfl [] rfl rfl rfl rfl rfl (Nat.le_of_ble_eq_true rfl) (Nat.le_refl _) (Nat.le_refl _) rfl dX12_isKnown_6 ?_
  refine ii_topB h (fun t_2 hz_3 h => ?_)
  cases h
  exact hQ _ _ dX12_isKnown_9 hz_3
set_option maxHeartbeats 4000000 in
set_option maxRecDepth 100000 in
theorem c_X12_orders (l : Launch) (D : va_G) (cI cJ cZ cH : ClassId) (a_this a_this_before a_this_bestLead a_this_can a_this_given a_this_images a_this_isKept a_this_lead a_this_load a_this_most a_this_net a_this_on a_this_owes a_this_row a_this_silver a_this_st a_this_step a_this_to a_this_together a_this_value a_this_waits a_this_with : Nat) (v_this_above : Int64) (v_this_before : Nat → Int32) (v_this_below : Int64) (v_this_on : Nat → Int64) (v_this_st : Nat → Int32) (v_this_steps : Int32) (v_this_to : Nat → Int64) (v_this_waiting : Int32) (p0 : Int32) {res : Int32 × (Nat → Int32) × (Nat → Int64) × (Nat → Int64)} (h : F_X12_orders v_this_before v_this_on v_this_st v_this_to p0 = some res) : CTi l yX12_orders wzX12_orders { frames := 2, cells := 0, slots := 0, locals := 47 } D [(cI, .int), (cJ, .long), (cZ, .boolean), (cH, .object "TinHouse$House")] [.ref a_this, .int p0] [(a_this, .inr (12, [.ref a_this_st, .ref a_this_images, .ref a_this_isKept, .long v_this_above, .long v_this_below, .int v_this_steps, .ref a_this_step, .ref a_this_with, .int v_this_waiting, .ref a_this_waits, .ref a_this_value, .ref a_this_given, .ref a_this_net, .ref a_this_together, .ref a_this_most, .ref a_this_owes, .ref a_this_can, .ref a_this_row, .ref a_this_before, .ref a_this_to, .ref a_this_on, .ref a_this_load, .ref a_this_lead, .ref a_this_bestLead, .ref a_this_silver])), (a_this_before, .inl (cI, 9, .inl v_this_before)), (a_this_on, .inl (cJ, 512, .inr (.inl v_this_on))), (a_this_st, .inl (cI, 1951, .inl v_this_st)), (a_this_to, .inl (cJ, 512, .inr (.inl v_this_to)))] res.1 [(a_this, .inr (12, [.ref a_this_st, .ref a_this_images, .ref a_this_isKept, .long v_this_above, .long v_this_below, .int v_this_steps, .ref a_this_step, .ref a_this_with, .int v_this_waiting, .ref a_this_waits, .ref a_this_value, .ref a_this_given, .ref a_this_net, .ref a_this_together, .ref a_this_most, .ref a_this_owes, .ref a_this_can, .ref a_this_row, .ref a_this_before, .ref a_this_to, .ref a_this_on, .ref a_this_load, .ref a_this_lead, .ref a_this_bestLead, .ref a_this_silver])), (a_this_before, .inl (cI, 9, .inl res.2.1)), (a_this_on, .inl (cJ, 512, .inr (.inl res.2.2.1))), (a_this_st, .inl (cI, 1951, .inl v_this_st)), (a_this_to, .inl (cJ, 512, .inr (.inl res.2.2.2)))] := by
  unfold F_X12_orders at h
  refine ii_metI (own := RX12) (lv0 := [(0, .ref a_this), (1, .int p0)]) (by decide) rfl rfl rfl (Nat.le_of_ble_eq_true rfl) (fun {p e s m args below meth c A Q} hQ => ?_)
  refine ii_iload_n 1 dX12_orders_0 rfl ?_
  obtain ⟨c_1, hc_1, h⟩ := bnd h
  refine ii_callSi (As := [.int p0]) (ws' := [(a_this, .inr (12, [.ref a_this_st, .ref a_this_images, .ref a_this_isKept, .long v_this_above, .long v_this_below, .int v_this_steps, .ref a_this_step, .ref a_this_with, .int v_this_waiting, .ref a_this_waits, .ref a_this_value, .ref a_this_given, .ref a_this_net, .ref a_this_together, .ref a_this_most, .ref a_this_owes, .ref a_this_can, .ref a_this_row, .ref a_this_before, .ref a_this_to, .ref a_this_on, .ref a_this_load, .ref a_this_lead, .ref a_this_bestLead, .ref a_this_silver])), (a_this_before, .inl (cI, 9, .inl v_this_before)), (a_this_on, .inl (cJ, 512, .inr (.inl v_this_on))), (a_this_st, .inl (cI, 1951, .inl v_this_st)), (a_this_to, .inl (cJ, 512, .inr (.inl v_this_to)))]) (st := []) (c_X12_isKnown l D cI cJ cZ cH p0 hc_1) gzX12_256 rfl rfl rfl eS_X12_isKnown ⟨Nat.le_of_ble_eq_true rfl, Nat.le_of_ble_eq_true rfl⟩ rfl [] rfl rfl rfl rfl rfl (Nat.le_of_ble_eq_true rfl) (Nat.le_refl _) (Nat.le_refl _) rfl dX12_orders_1 ?_
  refine ii_jn h (fun j_2 => [(a_this, .inr (12, [.ref a_this_st, .ref a_this_images, .ref a_this_isKept, .long v_this_above, .long v_this_below, .int v_this_steps, .ref a_this_step, .ref a_this_with, .int v_this_waiting, .ref a_this_waits, .ref a_this_value, .ref a_this_given, .ref a_this_net, .ref a_this_together, .ref a_this_most, .ref a_this_owes, .ref a_this_can, .ref a_this_row, .ref a_this_before, .ref a_this_to, .ref a_this_on, .ref a_this_load, .ref a_this_lead, .ref a_this_bestLead, .ref a_this_silver])), (a_this_before, .inl (cI, 9, .inl j_2.2.1)), (a_this_on, .inl (cJ, 512, .inr (.inl j_2.2.2.1))), (a_this_st, .inl (cI, 1951, .inl v_this_st)), (a_this_to, .inl (cJ, 512, .inr (.inl j_2.2.2.2)))]) (fun j_2 => []) 18 (fun j_2 => [.int j_2.1]) (fun j_2 h => ?_) (fun j_2 h hjj_2 => ?_)
  · skip
    cases h
    exact hQ _ _ dX12_orders_18
  · skip
    refine ii_if_eq (tgt := 16) h dX12_orders_4 (by decide) (fun h => ?_) (fun h => ?_)
    · skip
      refine ii_bipush dX12_orders_16 kbm2 ?_
      refine ii_lv [] rfl ?_
      cases h
      exact hjj_2
    · skip
      refine ii_aload_n 0 dX12_orders_7 rfl ?_
      refine ii_iload_n 1 dX12_orders_8 rfl ?_
      obtain ⟨c_3, hc_3, h⟩ := bnd h
      refine ii_callVl (As := [.int p0]) (ws' := [(a_this, .inr (12, [.ref a_this_st, .ref a_this_images, .ref a_this_isKept, .long v_this_above, .long v_this_below, .int v_this_steps, .ref a_this_step, .ref a_this_with, .int v_this_waiting, .ref a_this_waits, .ref a_this_value, .ref a_this_given, .ref a_this_net, .ref a_this_together, .ref a_this_most, .ref a_this_owes, .ref a_this_can, .ref a_this_row, .ref a_this_before, .ref a_this_to, .ref a_this_on, .ref a_this_load, .ref a_this_lead, .ref a_this_bestLead, .ref a_this_silver])), (a_this_before, .inl (cI, 9, .inl c_3.2.1)), (a_this_on, .inl (cJ, 512, .inr (.inl c_3.2.2.1))), (a_this_st, .inl (cI, 1951, .inl v_this_st)), (a_this_to, .inl (cJ, 512, .inr (.inl c_3.2.2.2)))]) (st := []) (c_X12_findOrders l D cI cJ cZ cH a_this a_this_before a_this_bestLead a_this_can a_this_given a_this_images a_this_isKept a_this_lead a_this_load a_this_most a_this_net a_this_on a_this_owes a_this_row a_this_silver a_this_st a_this_step a_this_to a_this_together a_this_value a_this_waits a_this_with v_this_above v_this_before v_this_below v_this_on v_this_st v_this_steps v_this_to v_this_waiting p0 hc_3) gzX12_259 rfl rfl rfl eV_X12_findOrders ⟨Nat.le_of_ble_eq_true rfl, Nat.le_of_ble_eq_true rfl⟩ rfl 0 rfl rfl [0, 1, 2, 3, 4] rfl rfl rfl rfl rfl (Nat.le_of_ble_eq_true rfl) (Nat.le_refl _) (Nat.le_refl _) rfl dX12_orders_9 ?_
      refine ii_l2i dX12_orders_12 ?_
      refine ii_goto (tgt := 18) dX12_orders_13 (by decide) ?_
      refine ii_lv [] rfl ?_
      cases h
      exact hjj_2
set_option maxHeartbeats 4000000 in
set_option maxRecDepth 100000 in
theorem c_X12_sizeOf (l : Launch) (D : va_G) (cI cJ cZ cH : ClassId) (p0 : Int32) {res : Int32} (h : F_X12_sizeOf p0 = some res) : CTi l yX12_sizeOf wzX12_sizeOf { frames := 0, cells := 0, slots := 0, locals := 0 } D [(cI, .int), (cJ, .long), (cZ, .boolean), (cH, .object "TinHouse$House")] [.int p0] [] res [] := by
  unfold F_X12_sizeOf at h
  refine ii_metI (own := RX12) (lv0 := [(0, .int p0)]) (by decide) rfl rfl rfl (Nat.le_of_ble_eq_true rfl) (fun {p e s m args below meth c A Q} hQ => ?_)
  refine ii_iconst dX12_sizeOf_0 kc0 ?_
  refine ii_istore_n (lv' := [(1, .int (0 : Int32)), (0, .int p0)]) dX12_sizeOf_1 rfl (by decide) rfl ?_
  refine ii_iload_n 1 dX12_sizeOf_2 rfl ?_
  refine ii_istore_n (lv' := [(2, .int p0), (1, .int (0 : Int32)), (0, .int p0)]) dX12_sizeOf_3 rfl (by decide) rfl ?_
  refine ii_lv [1, 0] rfl ?_
  obtain ⟨x_2, hl_1, h⟩ := bnd h
  refine ii_loopX (fun s_1 => []) (fun s_1 => [(1, .int s_1.1), (2, .int s_1.2)]) (fun x_2 => []) (fun x_2 => [(1, .int x_2.1)]) 21 hl_1 rfl rfl ?_ (fun s_1 o h hb_1 hr_1 hx_1 => ?_)
  · skip
    refine ii_iload_n 0 dX12_sizeOf_21 rfl ?_
    cases h
    exact hQ _ _ dX12_sizeOf_22
  · skip
    refine ii_iload_n 1 dX12_sizeOf_4 rfl ?_
    refine ii_if_le (tgt := 21) h dX12_sizeOf_5 (by decide) (fun h => ?_) (fun h => ?_)
    · skip
      refine ii_lv [0] rfl ?_
      cases h
      exact hx_1 (s_1.1, s_1.2) (hr_1 _ rfl)
    · skip
      refine ii_iload_n 0 dX12_sizeOf_8 rfl ?_
      refine ii_iload_n 1 dX12_sizeOf_9 rfl ?_
      refine ii_iconst dX12_sizeOf_10 kc1 ?_
      refine ii_iand dX12_sizeOf_11 ?_
      refine ii_iadd dX12_sizeOf_12 ?_
      refine ii_topI h (fun x_3 h => ?_)
      refine ii_istore_n (lv' := [(1, .int x_3), (2, .int s_1.2)]) dX12_sizeOf_13 rfl (by decide) rfl ?_
      refine ii_iload_n 1 dX12_sizeOf_14 rfl ?_
      refine ii_iconst dX12_sizeOf_15 kc1 ?_
      refine ii_ishr dX12_sizeOf_16 ?_
      refine ii_topI h (fun x_4 h => ?_)
      refine ii_istore_n (lv' := [(2, .int x_4), (1, .int x_3)]) dX12_sizeOf_17 rfl (by decide) rfl ?_
      refine ii_goto (tgt := 4) dX12_sizeOf_18 (by decide) ?_
      refine ii_lv [1, 0] rfl ?_
      cases h
      exact hb_1 (x_3, x_4) rfl
set_option maxHeartbeats 4000000 in
set_option maxRecDepth 100000 in
theorem c_X12_place (l : Launch) (D : va_G) (cI cJ cZ cH : ClassId) (a_this a_this_before a_this_bestLead a_this_can a_this_given a_this_images a_this_isKept a_this_lead a_this_load a_this_most a_this_net a_this_on a_this_owes a_this_row a_this_silver a_this_st a_this_step a_this_to a_this_together a_this_value a_this_waits a_this_with : Nat) (v_this_above : Int64) (v_this_before : Nat → Int32) (v_this_below : Int64) (v_this_on : Nat → Int64) (v_this_st : Nat → Int32) (v_this_steps : Int32) (v_this_to : Nat → Int64) (v_this_waiting : Int32) (p0 : Int32) (p1 : Int32) (p2 : Int32) {res : Int32 × (Nat → Int32) × (Nat → Int64) × (Nat → Int64)} (h : F_X12_place v_this_before v_this_on v_this_st v_this_to p0 p1 p2 = some res) : CTi l yX12_place wzX12_place { frames := 2, cells := 0, slots := 0, locals := 47 } D [(cI, .int), (cJ, .long), (cZ, .boolean), (cH, .object "TinHouse$House")] [.ref a_this, .int p0, .int p1, .int p2] [(a_this, .inr (12, [.ref a_this_st, .ref a_this_images, .ref a_this_isKept, .long v_this_above, .long v_this_below, .int v_this_steps, .ref a_this_step, .ref a_this_with, .int v_this_waiting, .ref a_this_waits, .ref a_this_value, .ref a_this_given, .ref a_this_net, .ref a_this_together, .ref a_this_most, .ref a_this_owes, .ref a_this_can, .ref a_this_row, .ref a_this_before, .ref a_this_to, .ref a_this_on, .ref a_this_load, .ref a_this_lead, .ref a_this_bestLead, .ref a_this_silver])), (a_this_before, .inl (cI, 9, .inl v_this_before)), (a_this_on, .inl (cJ, 512, .inr (.inl v_this_on))), (a_this_st, .inl (cI, 1951, .inl v_this_st)), (a_this_to, .inl (cJ, 512, .inr (.inl v_this_to)))] res.1 [(a_this, .inr (12, [.ref a_this_st, .ref a_this_images, .ref a_this_isKept, .long v_this_above, .long v_this_below, .int v_this_steps, .ref a_this_step, .ref a_this_with, .int v_this_waiting, .ref a_this_waits, .ref a_this_value, .ref a_this_given, .ref a_this_net, .ref a_this_together, .ref a_this_most, .ref a_this_owes, .ref a_this_can, .ref a_this_row, .ref a_this_before, .ref a_this_to, .ref a_this_on, .ref a_this_load, .ref a_this_lead, .ref a_this_bestLead, .ref a_this_silver])), (a_this_before, .inl (cI, 9, .inl res.2.1)), (a_this_on, .inl (cJ, 512, .inr (.inl res.2.2.1))), (a_this_st, .inl (cI, 1951, .inl v_this_st)), (a_this_to, .inl (cJ, 512, .inr (.inl res.2.2.2)))] := by
  unfold F_X12_place at h
  refine ii_metI (own := RX12) (lv0 := [(0, .ref a_this), (1, .int p0), (2, .int p1), (3, .int p2)]) (by decide) rfl rfl rfl (Nat.le_of_ble_eq_true rfl) (fun {p e s m args below meth c A Q} hQ => ?_)
  refine ii_aload_n 0 dX12_place_0 rfl ?_
  refine ii_iload_n 1 dX12_place_1 rfl ?_
  obtain ⟨c_1, hc_1, h⟩ := bnd h
  refine ii_callVi (As := [.int p0]) (ws' := [(a_this, .inr (12, [.ref a_this_st, .ref a_this_images, .ref a_this_isKept, .long v_this_above, .long v_this_below, .int v_this_steps, .ref a_this_step, .ref a_this_with, .int v_this_waiting, .ref a_this_waits, .ref a_this_value, .ref a_this_given, .ref a_this_net, .ref a_this_together, .ref a_this_most, .ref a_this_owes, .ref a_this_can, .ref a_this_row, .ref a_this_before, .ref a_this_to, .ref a_this_on, .ref a_this_load, .ref a_this_lead, .ref a_this_bestLead, .ref a_this_silver])), (a_this_before, .inl (cI, 9, .inl v_this_before)), (a_this_on, .inl (cJ, 512, .inr (.inl v_this_on))), (a_this_st, .inl (cI, 1951, .inl v_this_st)), (a_this_to, .inl (cJ, 512, .inr (.inl v_this_to)))]) (st := []) (c_X12_isName l D cI cJ cZ cH a_this a_this_before a_this_bestLead a_this_can a_this_given a_this_images a_this_isKept a_this_lead a_this_load a_this_most a_this_net a_this_on a_this_owes a_this_row a_this_silver a_this_st a_this_step a_this_to a_this_together a_this_value a_this_waits a_this_with v_this_above v_this_below v_this_st v_this_steps v_this_waiting p0 hc_1) gzX12_250 rfl rfl rfl eV_X12_isName ⟨Nat.le_of_ble_eq_true rfl, Nat.le_of_ble_eq_true rfl⟩ rfl 0 rfl rfl [0, 3] rfl rfl rfl rfl rfl (Nat.le_of_ble_eq_true rfl) (Nat.le_refl _) (Nat.le_refl _) rfl dX12_place_2 ?_
  refine ii_if_eq (tgt := 25) h dX12_place_5 (by decide) (fun h => ?_) (fun h => ?_)
  · skip
    refine ii_bipush dX12_place_25 kbm2 ?_
    cases h
    exact hQ _ _ dX12_place_27
  · skip
    refine ii_iload_n 2 dX12_place_8 rfl ?_
    obtain ⟨c_2, hc_2, h⟩ := bnd h
    refine ii_callSi (As := [.int p1]) (ws' := [(a_this, .inr (12, [.ref a_this_st, .ref a_this_images, .ref a_this_isKept, .long v_this_above, .long v_this_below, .int v_this_steps, .ref a_this_step, .ref a_this_with, .int v_this_waiting, .ref a_this_waits, .ref a_this_value, .ref a_this_given, .ref a_this_net, .ref a_this_together, .ref a_this_most, .ref a_this_owes, .ref a_this_can, .ref a_this_row, .ref a_this_before, .ref a_this_to, .ref a_this_on, .ref a_this_load, .ref a_this_lead, .ref a_this_bestLead, .ref a_this_silver])), (a_this_before, .inl (cI, 9, .inl v_this_before)), (a_this_on, .inl (cJ, 512, .inr (.inl v_this_on))), (a_this_st, .inl (cI, 1951, .inl v_this_st)), (a_this_to, .inl (cJ, 512, .inr (.inl v_this_to)))]) (st := []) (c_X12_isKnown l D cI cJ cZ cH p1 hc_2) gzX12_256 rfl rfl rfl eS_X12_isKnown ⟨Nat.le_of_ble_eq_true rfl, Nat.le_of_ble_eq_true rfl⟩ rfl [] rfl rfl rfl rfl rfl (Nat.le_of_ble_eq_true rfl) (Nat.le_refl _) (Nat.le_refl _) rfl dX12_place_9 ?_
    refine ii_if_eq (tgt := 25) h dX12_place_12 (by decide) (fun h => ?_) (fun h => ?_)
    · skip
      refine ii_bipush dX12_place_25 kbm2 ?_
      cases h
      exact hQ _ _ dX12_place_27
    · skip
      refine ii_iload_n 3 dX12_place_15 rfl ?_
      refine ii_i2l dX12_place_16 ?_
      refine ii_lconst dX12_place_17 kl0 ?_
      refine ii_lconst dX12_place_18 kl1 ?_
      obtain ⟨c_3, hc_3, h⟩ := bnd h
      refine ii_callSi (As := [.long p2.toInt64, .long (0 : Int64), .long (1 : Int64)]) (ws' := [(a_this, .inr (12, [.ref a_this_st, .ref a_this_images, .ref a_this_isKept, .long v_this_above, .long v_this_below, .int v_this_steps, .ref a_this_step, .ref a_this_with, .int v_this_waiting, .ref a_this_waits, .ref a_this_value, .ref a_this_given, .ref a_this_net, .ref a_this_together, .ref a_this_most, .ref a_this_owes, .ref a_this_can, .ref a_this_row, .ref a_this_before, .ref a_this_to, .ref a_this_on, .ref a_this_load, .ref a_this_lead, .ref a_this_bestLead, .ref a_this_silver])), (a_this_before, .inl (cI, 9, .inl v_this_before)), (a_this_on, .inl (cJ, 512, .inr (.inl v_this_on))), (a_this_st, .inl (cI, 1951, .inl v_this_st)), (a_this_to, .inl (cJ, 512, .inr (.inl v_this_to)))]) (st := []) (c_X12_in l D cI cJ cZ cH p2.toInt64 (0 : Int64) (1 : Int64) hc_3) gzX12_79 rfl rfl rfl eS_X12_in ⟨Nat.le_of_ble_eq_true rfl, Nat.le_of_ble_eq_true rfl⟩ rfl [] rfl rfl rfl rfl rfl (Nat.le_of_ble_eq_true rfl) (Nat.le_refl _) (Nat.le_refl _) rfl dX12_place_19 ?_
      refine ii_if_ne (tgt := 28) h dX12_place_22 (by decide) (fun h => ?_) (fun h => ?_)
      · skip
        refine ii_aload_n 0 dX12_place_28 rfl ?_
        refine ii_iload_n 2 dX12_place_29 rfl ?_
        obtain ⟨c_4, hc_4, h⟩ := bnd h
        refine ii_callVl (As := [.int p1]) (ws' := [(a_this, .inr (12, [.ref a_this_st, .ref a_this_images, .ref a_this_isKept, .long v_this_above, .long v_this_below, .int v_this_steps, .ref a_this_step, .ref a_this_with, .int v_this_waiting, .ref a_this_waits, .ref a_this_value, .ref a_this_given, .ref a_this_net, .ref a_this_together, .ref a_this_most, .ref a_this_owes, .ref a_this_can, .ref a_this_row, .ref a_this_before, .ref a_this_to, .ref a_this_on, .ref a_this_load, .ref a_this_lead, .ref a_this_bestLead, .ref a_this_silver])), (a_this_before, .inl (cI, 9, .inl c_4.2.1)), (a_this_on, .inl (cJ, 512, .inr (.inl c_4.2.2.1))), (a_this_st, .inl (cI, 1951, .inl v_this_st)), (a_this_to, .inl (cJ, 512, .inr (.inl c_4.2.2.2)))]) (st := []) (c_X12_findOrders l D cI cJ cZ cH a_this a_this_before a_this_bestLead a_this_can a_this_given a_this_images a_this_isKept a_this_lead a_this_load a_this_most a_this_net a_this_on a_this_owes a_this_row a_this_silver a_this_st a_this_step a_this_to a_this_together a_this_value a_this_waits a_this_with v_this_above v_this_before v_this_below v_this_on v_this_st v_this_steps v_this_to v_this_waiting p1 hc_4) gzX12_259 rfl rfl rfl eV_X12_findOrders ⟨Nat.le_of_ble_eq_true rfl, Nat.le_of_ble_eq_true rfl⟩ rfl 0 rfl rfl [0, 1, 2, 3, 4] rfl rfl rfl rfl rfl (Nat.le_of_ble_eq_true rfl) (Nat.le_refl _) (Nat.le_refl _) rfl dX12_place_30 ?_
        refine ii_pop2 dX12_place_33 rfl ?_
        refine ii_iconst dX12_place_34 kcm1 ?_
        refine ii_istore (lv' := [(4, .int (-1 : Int32)), (0, .ref a_this), (1, .int p0), (2, .int p1), (3, .int p2)]) dX12_place_35 (by decide) rfl ?_
        refine ii_iconst dX12_place_37 kc0 ?_
        refine ii_istore (lv' := [(5, .int (0 : Int32)), (4, .int (-1 : Int32)), (0, .ref a_this), (1, .int p0), (2, .int p1), (3, .int p2)]) dX12_place_38 (by decide) rfl ?_
        refine ii_lv [2, 3, 5, 1, 0] rfl ?_
        obtain ⟨x_6, hl_5, h⟩ := bnd h
        refine ii_loopX (fun s_5 => [(a_this, .inr (12, [.ref a_this_st, .ref a_this_images, .ref a_this_isKept, .long v_this_above, .long v_this_below, .int v_this_steps, .ref a_this_step, .ref a_this_with, .int v_this_waiting, .ref a_this_waits, .ref a_this_value, .ref a_this_given, .ref a_this_net, .ref a_this_together, .ref a_this_most, .ref a_this_owes, .ref a_this_can, .ref a_this_row, .ref a_this_before, .ref a_this_to, .ref a_this_on, .ref a_this_load, .ref a_this_lead, .ref a_this_bestLead, .ref a_this_silver])), (a_this_before, .inl (cI, 9, .inl c_4.2.1)), (a_this_on, .inl (cJ, 512, .inr (.inl c_4.2.2.1))), (a_this_st, .inl (cI, 1951, .inl v_this_st)), (a_this_to, .inl (cJ, 512, .inr (.inl c_4.2.2.2)))]) (fun s_5 => [(0, .ref a_this), (1, .int p0), (3, .int p2), (4, .int s_5.1), (5, .int s_5.2)]) (fun x_6 => [(a_this, .inr (12, [.ref a_this_st, .ref a_this_images, .ref a_this_isKept, .long v_this_above, .long v_this_below, .int v_this_steps, .ref a_this_step, .ref a_this_with, .int v_this_waiting, .ref a_this_waits, .ref a_this_value, .ref a_this_given, .ref a_this_net, .ref a_this_together, .ref a_this_most, .ref a_this_owes, .ref a_this_can, .ref a_this_row, .ref a_this_before, .ref a_this_to, .ref a_this_on, .ref a_this_load, .ref a_this_lead, .ref a_this_bestLead, .ref a_this_silver])), (a_this_before, .inl (cI, 9, .inl c_4.2.1)), (a_this_on, .inl (cJ, 512, .inr (.inl c_4.2.2.1))), (a_this_st, .inl (cI, 1951, .inl v_this_st)), (a_this_to, .inl (cJ, 512, .inr (.inl c_4.2.2.2)))]) (fun x_6 => [(4, .int x_6.1)]) 141 hl_5 rfl rfl ?_ (fun s_5 o h hb_5 hr_5 hx_5 => ?_)
        · skip
          refine ii_iload 0 dX12_place_141 rfl ?_
          cases h
          exact hQ _ _ dX12_place_143
        · skip
          refine ii_iload 4 dX12_place_40 rfl ?_
          refine ii_iconst dX12_place_42 kc1 ?_
          refine ii_aload_n 0 dX12_place_43 rfl ?_
          refine ii_get (C := RX12) (T := TX12) (N := 25) (ci := 12) izX12 0 rfl rfl 0 (by decide) kX12_7 rfl dX12_place_44 ?_
          refine ii_bipush dX12_place_47 kb12 ?_
          refine ii_iald h 3 0 rfl rfl dX12_place_49 (fun t_7 h => ?_)
          refine ii_ishl dX12_place_50 ?_
          refine ii_icmp_ge (tgt := 141) h dX12_place_51 (by decide) (fun h => ?_) (fun h => ?_)
          · skip
            refine ii_lv [3] rfl ?_
            cases h
            exact hx_5 (s_5.1, s_5.2) (hr_5 _ rfl)
          · skip
            refine ii_aload_n 0 dX12_place_54 rfl ?_
            refine ii_iload 4 dX12_place_55 rfl ?_
            refine ii_iload_n 1 dX12_place_57 rfl ?_
            obtain ⟨c_8, hc_8, h⟩ := bnd h
            refine ii_callVi (As := [.int s_5.2, .int p0]) (ws' := [(a_this, .inr (12, [.ref a_this_st, .ref a_this_images, .ref a_this_isKept, .long v_this_above, .long v_this_below, .int v_this_steps, .ref a_this_step, .ref a_this_with, .int v_this_waiting, .ref a_this_waits, .ref a_this_value, .ref a_this_given, .ref a_this_net, .ref a_this_together, .ref a_this_most, .ref a_this_owes, .ref a_this_can, .ref a_this_row, .ref a_this_before, .ref a_this_to, .ref a_this_on, .ref a_this_load, .ref a_this_lead, .ref a_this_bestLead, .ref a_this_silver])), (a_this_before, .inl (cI, 9, .inl c_4.2.1)), (a_this_on, .inl (cJ, 512, .inr (.inl c_4.2.2.1))), (a_this_st, .inl (cI, 1951, .inl v_this_st)), (a_this_to, .inl (cJ, 512, .inr (.inl c_4.2.2.2)))]) (st := []) (c_X12_mayCome l D cI cJ cZ cH a_this a_this_before a_this_bestLead a_this_can a_this_given a_this_images a_this_isKept a_this_lead a_this_load a_this_most a_this_net a_this_on a_this_owes a_this_row a_this_silver a_this_st a_this_step a_this_to a_this_together a_this_value a_this_waits a_this_with v_this_above c_4.2.1 v_this_below v_this_steps v_this_waiting s_5.2 p0 hc_8) gzX12_253 rfl rfl rfl eV_X12_mayCome ⟨Nat.le_of_ble_eq_true rfl, Nat.le_of_ble_eq_true rfl⟩ rfl 0 rfl rfl [0, 1] rfl rfl rfl rfl rfl (Nat.le_of_ble_eq_true rfl) (Nat.le_refl _) (Nat.le_refl _) rfl dX12_place_58 ?_
            refine ii_jn h (fun j_9 => [(a_this, .inr (12, [.ref a_this_st, .ref a_this_images, .ref a_this_isKept, .long v_this_above, .long v_this_below, .int v_this_steps, .ref a_this_step, .ref a_this_with, .int v_this_waiting, .ref a_this_waits, .ref a_this_value, .ref a_this_given, .ref a_this_net, .ref a_this_together, .ref a_this_most, .ref a_this_owes, .ref a_this_can, .ref a_this_row, .ref a_this_before, .ref a_this_to, .ref a_this_on, .ref a_this_load, .ref a_this_lead, .ref a_this_bestLead, .ref a_this_silver])), (a_this_before, .inl (cI, 9, .inl c_4.2.1)), (a_this_on, .inl (cJ, 512, .inr (.inl c_4.2.2.1))), (a_this_st, .inl (cI, 1951, .inl v_this_st)), (a_this_to, .inl (cJ, 512, .inr (.inl c_4.2.2.2)))]) (fun j_9 => [(0, .ref a_this), (1, .int p0), (3, .int p2), (4, .int j_9), (5, .int s_5.2)]) 135 (fun j_9 => []) (fun j_9 h => ?_) (fun j_9 h hjj_9 => ?_)
            · skip
              refine ii_iinc (fun x_14 => [(5, .int x_14), (0, .ref a_this), (1, .int p0), (3, .int p2), (4, .int j_9)]) h 4 dX12_place_135 rfl kc1 (by decide) (fun _ => rfl) (fun x_14 h => ?_)
              refine ii_goto (tgt := 40) dX12_place_138 (by decide) ?_
              refine ii_lv [1, 2, 3, 4, 0] rfl ?_
              cases h
              exact hb_5 (j_9, x_14) rfl
            · skip
              refine ii_if_eq (tgt := 135) h dX12_place_61 (by decide) (fun h => ?_) (fun h => ?_)
              · skip
                cases h
                exact hjj_9
              · skip
                refine ii_aload_n 0 dX12_place_64 rfl ?_
                refine ii_get (C := RX12) (T := TX12) (N := 25) (ci := 12) izX12 0 rfl rfl 19 (by decide) kX12_57 rfl dX12_place_65 ?_
                refine ii_iload 4 dX12_place_68 rfl ?_
                refine ii_lald h 4 1 rfl rfl dX12_place_70 (fun t_10 h => ?_)
                refine ii_lconst dX12_place_71 kl0 ?_
                refine ii_lcmp_le (tgt := 135) h dX12_place_72 dX12_place_73 (by decide) (fun h => ?_) (fun h => ?_)
                · skip
                  cases h
                  exact hjj_9
                · skip
                  refine ii_aload_n 0 dX12_place_76 rfl ?_
                  refine ii_get (C := RX12) (T := TX12) (N := 25) (ci := 12) izX12 0 rfl rfl 20 (by decide) kX12_60 rfl dX12_place_77 ?_
                  refine ii_iload 4 dX12_place_80 rfl ?_
                  refine ii_iconst dX12_place_82 kc1 ?_
                  refine ii_iload_n 1 dX12_place_83 rfl ?_
                  refine ii_ishl dX12_place_84 ?_
                  refine ii_ior dX12_place_85 ?_
                  refine ii_lald h 2 1 rfl rfl dX12_place_86 (fun t_11 h => ?_)
                  refine ii_lconst dX12_place_87 kl0 ?_
                  refine ii_lcmp_le (tgt := 135) h dX12_place_88 dX12_place_89 (by decide) (fun h => ?_) (fun h => ?_)
                  · skip
                    cases h
                    exact hjj_9
                  · skip
                    refine ii_iload 4 dX12_place_92 rfl ?_
                    obtain ⟨c_12, hc_12, h⟩ := bnd h
                    refine ii_callSi (As := [.int s_5.2]) (ws' := [(a_this, .inr (12, [.ref a_this_st, .ref a_this_images, .ref a_this_isKept, .long v_this_above, .long v_this_below, .int v_this_steps, .ref a_this_step, .ref a_this_with, .int v_this_waiting, .ref a_this_waits, .ref a_this_value, .ref a_this_given, .ref a_this_net, .ref a_this_together, .ref a_this_most, .ref a_this_owes, .ref a_this_can, .ref a_this_row, .ref a_this_before, .ref a_this_to, .ref a_this_on, .ref a_this_load, .ref a_this_lead, .ref a_this_bestLead, .ref a_this_silver])), (a_this_before, .inl (cI, 9, .inl c_4.2.1)), (a_this_on, .inl (cJ, 512, .inr (.inl c_4.2.2.1))), (a_this_st, .inl (cI, 1951, .inl v_this_st)), (a_this_to, .inl (cJ, 512, .inr (.inl c_4.2.2.2)))]) (st := []) (c_X12_sizeOf l D cI cJ cZ cH s_5.2 hc_12) gzX12_263 rfl rfl rfl eS_X12_sizeOf ⟨Nat.le_of_ble_eq_true rfl, Nat.le_of_ble_eq_true rfl⟩ rfl [] rfl rfl rfl rfl rfl (Nat.le_of_ble_eq_true rfl) (Nat.le_refl _) (Nat.le_refl _) rfl dX12_place_94 ?_
                    refine ii_istore (lv' := [(6, .int c_12), (0, .ref a_this), (1, .int p0), (3, .int p2), (4, .int s_5.1), (5, .int s_5.2)]) dX12_place_97 (by decide) rfl ?_
                    refine ii_iload 4 dX12_place_99 rfl ?_
                    refine ii_iconst dX12_place_101 kcm1 ?_
                    refine ii_jn h (fun j_13 => [(a_this, .inr (12, [.ref a_this_st, .ref a_this_images, .ref a_this_isKept, .long v_this_above, .long v_this_below, .int v_this_steps, .ref a_this_step, .ref a_this_with, .int v_this_waiting, .ref a_this_waits, .ref a_this_value, .ref a_this_given, .ref a_this_net, .ref a_this_together, .ref a_this_most, .ref a_this_owes, .ref a_this_can, .ref a_this_row, .ref a_this_before, .ref a_this_to, .ref a_this_on, .ref a_this_load, .ref a_this_lead, .ref a_this_bestLead, .ref a_this_silver])), (a_this_before, .inl (cI, 9, .inl c_4.2.1)), (a_this_on, .inl (cJ, 512, .inr (.inl c_4.2.2.1))), (a_this_st, .inl (cI, 1951, .inl v_this_st)), (a_this_to, .inl (cJ, 512, .inr (.inl c_4.2.2.2)))]) (fun j_13 => [(0, .ref a_this), (1, .int p0), (3, .int p2), (5, .int s_5.2)]) 133 (fun j_13 => [.int j_13]) (fun j_13 h => ?_) (fun j_13 h hjj_13 => ?_)
                    · skip
                      refine ii_istore (lv' := [(4, .int j_13), (0, .ref a_this), (1, .int p0), (3, .int p2), (5, .int s_5.2)]) dX12_place_133 (by decide) rfl ?_
                      refine ii_lv [1, 2, 3, 0, 4] rfl ?_
                      cases h
                      exact hjj_9
                    · skip
                      refine ii_icmp_eq (tgt := 126) h dX12_place_102 (by decide) (fun h => ?_) (fun h => ?_)
                      · skip
                        refine ii_iload 0 dX12_place_126 rfl ?_
                        refine ii_goto (tgt := 133) dX12_place_128 (by decide) ?_
                        refine ii_lv [1, 2, 3, 5] rfl ?_
                        cases h
                        exact hjj_13
                      · skip
                        refine ii_iload_n 3 dX12_place_105 rfl ?_
                        refine ii_if_ne (tgt := 119) h dX12_place_106 (by decide) (fun h => ?_) (fun h => ?_)
                        · skip
                          refine ii_iload 0 dX12_place_119 rfl ?_
                          refine ii_iload 4 dX12_place_121 rfl ?_
                          refine ii_icmp_le (tgt := 131) h dX12_place_123 (by decide) (fun h => ?_) (fun h => ?_)
                          · skip
                            refine ii_iload 4 dX12_place_131 rfl ?_
                            refine ii_lv [1, 2, 3, 5] rfl ?_
                            cases h
                            exact hjj_13
                          · skip
                            refine ii_iload 0 dX12_place_126 rfl ?_
                            refine ii_goto (tgt := 133) dX12_place_128 (by decide) ?_
                            refine ii_lv [1, 2, 3, 5] rfl ?_
                            cases h
                            exact hjj_13
                        · skip
                          refine ii_iload 0 dX12_place_109 rfl ?_
                          refine ii_iload 4 dX12_place_111 rfl ?_
                          refine ii_icmp_ge (tgt := 131) h dX12_place_113 (by decide) (fun h => ?_) (fun h => ?_)
                          · skip
                            refine ii_iload 4 dX12_place_131 rfl ?_
                            refine ii_lv [1, 2, 3, 5] rfl ?_
                            cases h
                            exact hjj_13
                          · skip
                            refine ii_goto (tgt := 126) dX12_place_116 (by decide) ?_
                            refine ii_iload 0 dX12_place_126 rfl ?_
                            refine ii_goto (tgt := 133) dX12_place_128 (by decide) ?_
                            refine ii_lv [1, 2, 3, 5] rfl ?_
                            cases h
                            exact hjj_13
      · skip
        refine ii_bipush dX12_place_25 kbm2 ?_
        cases h
        exact hQ _ _ dX12_place_27
set_option maxHeartbeats 4000000 in
set_option maxRecDepth 100000 in
theorem c_X12_order (l : Launch) (D : va_G) (cI cJ cZ cH : ClassId) (a_this a_this_before a_this_bestLead a_this_can a_this_given a_this_images a_this_isKept a_this_lead a_this_load a_this_most a_this_net a_this_on a_this_owes a_this_row a_this_silver a_this_st a_this_step a_this_to a_this_together a_this_value a_this_waits a_this_with : Nat) (v_this_above : Int64) (v_this_before : Nat → Int32) (v_this_below : Int64) (v_this_on : Nat → Int64) (v_this_st : Nat → Int32) (v_this_steps : Int32) (v_this_to : Nat → Int64) (v_this_waiting : Int32) (p0 : Int32) (p1 : Int32) {res : Int32 × (Nat → Int32) × (Nat → Int64) × (Nat → Int64)} (h : F_X12_order v_this_before v_this_on v_this_st v_this_to p0 p1 = some res) : CTi l yX12_order wzX12_order { frames := 2, cells := 0, slots := 0, locals := 47 } D [(cI, .int), (cJ, .long), (cZ, .boolean), (cH, .object "TinHouse$House")] [.ref a_this, .int p0, .int p1] [(a_this, .inr (12, [.ref a_this_st, .ref a_this_images, .ref a_this_isKept, .long v_this_above, .long v_this_below, .int v_this_steps, .ref a_this_step, .ref a_this_with, .int v_this_waiting, .ref a_this_waits, .ref a_this_value, .ref a_this_given, .ref a_this_net, .ref a_this_together, .ref a_this_most, .ref a_this_owes, .ref a_this_can, .ref a_this_row, .ref a_this_before, .ref a_this_to, .ref a_this_on, .ref a_this_load, .ref a_this_lead, .ref a_this_bestLead, .ref a_this_silver])), (a_this_before, .inl (cI, 9, .inl v_this_before)), (a_this_on, .inl (cJ, 512, .inr (.inl v_this_on))), (a_this_st, .inl (cI, 1951, .inl v_this_st)), (a_this_to, .inl (cJ, 512, .inr (.inl v_this_to)))] res.1 [(a_this, .inr (12, [.ref a_this_st, .ref a_this_images, .ref a_this_isKept, .long v_this_above, .long v_this_below, .int v_this_steps, .ref a_this_step, .ref a_this_with, .int v_this_waiting, .ref a_this_waits, .ref a_this_value, .ref a_this_given, .ref a_this_net, .ref a_this_together, .ref a_this_most, .ref a_this_owes, .ref a_this_can, .ref a_this_row, .ref a_this_before, .ref a_this_to, .ref a_this_on, .ref a_this_load, .ref a_this_lead, .ref a_this_bestLead, .ref a_this_silver])), (a_this_before, .inl (cI, 9, .inl res.2.1)), (a_this_on, .inl (cJ, 512, .inr (.inl res.2.2.1))), (a_this_st, .inl (cI, 1951, .inl v_this_st)), (a_this_to, .inl (cJ, 512, .inr (.inl res.2.2.2)))] := by
  unfold F_X12_order at h
  refine ii_metI (own := RX12) (lv0 := [(0, .ref a_this), (1, .int p0), (2, .int p1)]) (by decide) rfl rfl rfl (Nat.le_of_ble_eq_true rfl) (fun {p e s m args below meth c A Q} hQ => ?_)
  refine ii_iload_n 1 dX12_order_0 rfl ?_
  obtain ⟨c_1, hc_1, h⟩ := bnd h
  refine ii_callSi (As := [.int p0]) (ws' := [(a_this, .inr (12, [.ref a_this_st, .ref a_this_images, .ref a_this_isKept, .long v_this_above, .long v_this_below, .int v_this_steps, .ref a_this_step, .ref a_this_with, .int v_this_waiting, .ref a_this_waits, .ref a_this_value, .ref a_this_given, .ref a_this_net, .ref a_this_together, .ref a_this_most, .ref a_this_owes, .ref a_this_can, .ref a_this_row, .ref a_this_before, .ref a_this_to, .ref a_this_on, .ref a_this_load, .ref a_this_lead, .ref a_this_bestLead, .ref a_this_silver])), (a_this_before, .inl (cI, 9, .inl v_this_before)), (a_this_on, .inl (cJ, 512, .inr (.inl v_this_on))), (a_this_st, .inl (cI, 1951, .inl v_this_st)), (a_this_to, .inl (cJ, 512, .inr (.inl v_this_to)))]) (st := []) (c_X12_isKnown l D cI cJ cZ cH p0 hc_1) gzX12_256 rfl rfl rfl eS_X12_isKnown ⟨Nat.le_of_ble_eq_true rfl, Nat.le_of_ble_eq_true rfl⟩ rfl [] rfl rfl rfl rfl rfl (Nat.le_of_ble_eq_true rfl) (Nat.le_refl _) (Nat.le_refl _) rfl dX12_order_1 ?_
  refine ii_if_eq (tgt := 15) h dX12_order_4 (by decide) (fun h => ?_) (fun h => ?_)
  · skip
    refine ii_bipush dX12_order_15 kbm2 ?_
    cases h
    exact hQ _ _ dX12_order_17
  · skip
    refine ii_aload_n 0 dX12_order_7 rfl ?_
    refine ii_iload_n 2 dX12_order_8 rfl ?_
    obtain ⟨c_2, hc_2, h⟩ := bnd h
    refine ii_callVi (As := [.int p1]) (ws' := [(a_this, .inr (12, [.ref a_this_st, .ref a_this_images, .ref a_this_isKept, .long v_this_above, .long v_this_below, .int v_this_steps, .ref a_this_step, .ref a_this_with, .int v_this_waiting, .ref a_this_waits, .ref a_this_value, .ref a_this_given, .ref a_this_net, .ref a_this_together, .ref a_this_most, .ref a_this_owes, .ref a_this_can, .ref a_this_row, .ref a_this_before, .ref a_this_to, .ref a_this_on, .ref a_this_load, .ref a_this_lead, .ref a_this_bestLead, .ref a_this_silver])), (a_this_before, .inl (cI, 9, .inl v_this_before)), (a_this_on, .inl (cJ, 512, .inr (.inl v_this_on))), (a_this_st, .inl (cI, 1951, .inl v_this_st)), (a_this_to, .inl (cJ, 512, .inr (.inl v_this_to)))]) (st := []) (c_X12_isName l D cI cJ cZ cH a_this a_this_before a_this_bestLead a_this_can a_this_given a_this_images a_this_isKept a_this_lead a_this_load a_this_most a_this_net a_this_on a_this_owes a_this_row a_this_silver a_this_st a_this_step a_this_to a_this_together a_this_value a_this_waits a_this_with v_this_above v_this_below v_this_st v_this_steps v_this_waiting p1 hc_2) gzX12_250 rfl rfl rfl eV_X12_isName ⟨Nat.le_of_ble_eq_true rfl, Nat.le_of_ble_eq_true rfl⟩ rfl 0 rfl rfl [0, 3] rfl rfl rfl rfl rfl (Nat.le_of_ble_eq_true rfl) (Nat.le_refl _) (Nat.le_refl _) rfl dX12_order_9 ?_
    refine ii_if_ne (tgt := 18) h dX12_order_12 (by decide) (fun h => ?_) (fun h => ?_)
    · skip
      refine ii_aload_n 0 dX12_order_18 rfl ?_
      refine ii_iload_n 1 dX12_order_19 rfl ?_
      obtain ⟨c_3, hc_3, h⟩ := bnd h
      refine ii_callVl (As := [.int p0]) (ws' := [(a_this, .inr (12, [.ref a_this_st, .ref a_this_images, .ref a_this_isKept, .long v_this_above, .long v_this_below, .int v_this_steps, .ref a_this_step, .ref a_this_with, .int v_this_waiting, .ref a_this_waits, .ref a_this_value, .ref a_this_given, .ref a_this_net, .ref a_this_together, .ref a_this_most, .ref a_this_owes, .ref a_this_can, .ref a_this_row, .ref a_this_before, .ref a_this_to, .ref a_this_on, .ref a_this_load, .ref a_this_lead, .ref a_this_bestLead, .ref a_this_silver])), (a_this_before, .inl (cI, 9, .inl c_3.2.1)), (a_this_on, .inl (cJ, 512, .inr (.inl c_3.2.2.1))), (a_this_st, .inl (cI, 1951, .inl v_this_st)), (a_this_to, .inl (cJ, 512, .inr (.inl c_3.2.2.2)))]) (st := []) (c_X12_findOrders l D cI cJ cZ cH a_this a_this_before a_this_bestLead a_this_can a_this_given a_this_images a_this_isKept a_this_lead a_this_load a_this_most a_this_net a_this_on a_this_owes a_this_row a_this_silver a_this_st a_this_step a_this_to a_this_together a_this_value a_this_waits a_this_with v_this_above v_this_before v_this_below v_this_on v_this_st v_this_steps v_this_to v_this_waiting p0 hc_3) gzX12_259 rfl rfl rfl eV_X12_findOrders ⟨Nat.le_of_ble_eq_true rfl, Nat.le_of_ble_eq_true rfl⟩ rfl 0 rfl rfl [0, 1, 2, 3, 4] rfl rfl rfl rfl rfl (Nat.le_of_ble_eq_true rfl) (Nat.le_refl _) (Nat.le_refl _) rfl dX12_order_20 ?_
      refine ii_lconst dX12_order_23 kl0 ?_
      refine ii_lcmp_ne (tgt := 30) h dX12_order_24 dX12_order_25 (by decide) (fun h => ?_) (fun h => ?_)
      · skip
        refine ii_iconst dX12_order_30 kc0 ?_
        refine ii_istore_n (lv' := [(3, .int (0 : Int32)), (0, .ref a_this), (1, .int p0), (2, .int p1)]) dX12_order_31 rfl (by decide) rfl ?_
        refine ii_iconst dX12_order_32 kc0 ?_
        refine ii_istore (lv' := [(4, .int (0 : Int32)), (3, .int (0 : Int32)), (0, .ref a_this), (1, .int p0), (2, .int p1)]) dX12_order_33 (by decide) rfl ?_
        refine ii_iconst dX12_order_35 kc0 ?_
        refine ii_istore (lv' := [(5, .int (0 : Int32)), (4, .int (0 : Int32)), (3, .int (0 : Int32)), (0, .ref a_this), (1, .int p0), (2, .int p1)]) dX12_order_36 (by decide) rfl ?_
        refine ii_lv [3, 5, 2, 1, 0] rfl ?_
        obtain ⟨x_5, hl_4, h⟩ := bnd h
        refine ii_loopX (fun s_4 => [(a_this, .inr (12, [.ref a_this_st, .ref a_this_images, .ref a_this_isKept, .long v_this_above, .long v_this_below, .int v_this_steps, .ref a_this_step, .ref a_this_with, .int v_this_waiting, .ref a_this_waits, .ref a_this_value, .ref a_this_given, .ref a_this_net, .ref a_this_together, .ref a_this_most, .ref a_this_owes, .ref a_this_can, .ref a_this_row, .ref a_this_before, .ref a_this_to, .ref a_this_on, .ref a_this_load, .ref a_this_lead, .ref a_this_bestLead, .ref a_this_silver])), (a_this_before, .inl (cI, 9, .inl c_3.2.1)), (a_this_on, .inl (cJ, 512, .inr (.inl c_3.2.2.1))), (a_this_st, .inl (cI, 1951, .inl v_this_st)), (a_this_to, .inl (cJ, 512, .inr (.inl c_3.2.2.2)))]) (fun s_4 => [(0, .ref a_this), (2, .int p1), (3, .int s_4.1), (4, .int s_4.2.1), (5, .int s_4.2.2)]) (fun x_5 => [(a_this, .inr (12, [.ref a_this_st, .ref a_this_images, .ref a_this_isKept, .long v_this_above, .long v_this_below, .int v_this_steps, .ref a_this_step, .ref a_this_with, .int v_this_waiting, .ref a_this_waits, .ref a_this_value, .ref a_this_given, .ref a_this_net, .ref a_this_together, .ref a_this_most, .ref a_this_owes, .ref a_this_can, .ref a_this_row, .ref a_this_before, .ref a_this_to, .ref a_this_on, .ref a_this_load, .ref a_this_lead, .ref a_this_bestLead, .ref a_this_silver])), (a_this_before, .inl (cI, 9, .inl c_3.2.1)), (a_this_on, .inl (cJ, 512, .inr (.inl c_3.2.2.1))), (a_this_st, .inl (cI, 1951, .inl v_this_st)), (a_this_to, .inl (cJ, 512, .inr (.inl c_3.2.2.2)))]) (fun x_5 => [(4, .int x_5.2.1)]) 92 hl_4 rfl rfl ?_ (fun s_4 o h hb_4 hr_4 hx_4 => ?_)
        · skip
          refine ii_iload 0 dX12_order_92 rfl ?_
          cases h
          exact hQ _ _ dX12_order_94
        · skip
          refine ii_iload 4 dX12_order_38 rfl ?_
          refine ii_iload_n 1 dX12_order_40 rfl ?_
          refine ii_icmp_gt (tgt := 92) h dX12_order_41 (by decide) (fun h => ?_) (fun h => ?_)
          · skip
            refine ii_lv [3] rfl ?_
            cases h
            exact hx_4 (s_4.1, s_4.2.1, s_4.2.2) (hr_4 _ rfl)
          · skip
            refine ii_iconst dX12_order_44 kc0 ?_
            refine ii_istore (lv' := [(4, .int (0 : Int32)), (0, .ref a_this), (2, .int p1), (3, .int s_4.1), (5, .int s_4.2.2)]) dX12_order_45 (by decide) rfl ?_
            refine ii_lv [1, 2, 3, 0, 4] rfl ?_
            obtain ⟨x_7, hl_6, h⟩ := bnd h
            refine ii_loopX (fun s_6 => [(a_this, .inr (12, [.ref a_this_st, .ref a_this_images, .ref a_this_isKept, .long v_this_above, .long v_this_below, .int v_this_steps, .ref a_this_step, .ref a_this_with, .int v_this_waiting, .ref a_this_waits, .ref a_this_value, .ref a_this_given, .ref a_this_net, .ref a_this_together, .ref a_this_most, .ref a_this_owes, .ref a_this_can, .ref a_this_row, .ref a_this_before, .ref a_this_to, .ref a_this_on, .ref a_this_load, .ref a_this_lead, .ref a_this_bestLead, .ref a_this_silver])), (a_this_before, .inl (cI, 9, .inl c_3.2.1)), (a_this_on, .inl (cJ, 512, .inr (.inl c_3.2.2.1))), (a_this_st, .inl (cI, 1951, .inl v_this_st)), (a_this_to, .inl (cJ, 512, .inr (.inl c_3.2.2.2)))]) (fun s_6 => [(0, .ref a_this), (2, .int p1), (3, .int s_4.1), (4, .int s_6), (5, .int s_4.2.2)]) (fun x_7 => [(a_this, .inr (12, [.ref a_this_st, .ref a_this_images, .ref a_this_isKept, .long v_this_above, .long v_this_below, .int v_this_steps, .ref a_this_step, .ref a_this_with, .int v_this_waiting, .ref a_this_waits, .ref a_this_value, .ref a_this_given, .ref a_this_net, .ref a_this_together, .ref a_this_most, .ref a_this_owes, .ref a_this_can, .ref a_this_row, .ref a_this_before, .ref a_this_to, .ref a_this_on, .ref a_this_load, .ref a_this_lead, .ref a_this_bestLead, .ref a_this_silver])), (a_this_before, .inl (cI, 9, .inl c_3.2.1)), (a_this_on, .inl (cJ, 512, .inr (.inl c_3.2.2.1))), (a_this_st, .inl (cI, 1951, .inl v_this_st)), (a_this_to, .inl (cJ, 512, .inr (.inl c_3.2.2.2)))]) (fun x_7 => [(0, .ref a_this), (2, .int p1), (3, .int s_4.1), (4, .int x_7), (5, .int s_4.2.2)]) 79 hl_6 rfl rfl ?_ (fun s_6 o h hb_6 hr_6 hx_6 => ?_)
            · skip
              refine ii_iload_n 2 dX12_order_79 rfl ?_
              refine ii_iconst dX12_order_80 kc1 ?_
              refine ii_iload 3 dX12_order_81 rfl ?_
              refine ii_ishl dX12_order_83 ?_
              refine ii_ior dX12_order_84 ?_
              refine ii_topI h (fun x_12 h => ?_)
              refine ii_istore_n (lv' := [(3, .int x_12), (0, .ref a_this), (2, .int p1), (4, .int x_7), (5, .int s_4.2.2)]) dX12_order_85 rfl (by decide) rfl ?_
              refine ii_iinc (fun x_13 => [(5, .int x_13), (3, .int x_12), (0, .ref a_this), (2, .int p1), (4, .int x_7)]) h 4 dX12_order_86 rfl kc1 (by decide) (fun _ => rfl) (fun x_13 h => ?_)
              refine ii_goto (tgt := 38) dX12_order_89 (by decide) ?_
              refine ii_lv [2, 3, 1, 4, 0] rfl ?_
              cases h
              exact hb_4 (x_12, x_7, x_13) rfl
            · skip
              refine ii_aload_n 0 dX12_order_47 rfl ?_
              refine ii_iload_n 2 dX12_order_48 rfl ?_
              refine ii_iload 3 dX12_order_49 rfl ?_
              obtain ⟨c_8, hc_8, h⟩ := bnd h
              refine ii_callVi (As := [.int s_4.1, .int s_6]) (ws' := [(a_this, .inr (12, [.ref a_this_st, .ref a_this_images, .ref a_this_isKept, .long v_this_above, .long v_this_below, .int v_this_steps, .ref a_this_step, .ref a_this_with, .int v_this_waiting, .ref a_this_waits, .ref a_this_value, .ref a_this_given, .ref a_this_net, .ref a_this_together, .ref a_this_most, .ref a_this_owes, .ref a_this_can, .ref a_this_row, .ref a_this_before, .ref a_this_to, .ref a_this_on, .ref a_this_load, .ref a_this_lead, .ref a_this_bestLead, .ref a_this_silver])), (a_this_before, .inl (cI, 9, .inl c_3.2.1)), (a_this_on, .inl (cJ, 512, .inr (.inl c_3.2.2.1))), (a_this_st, .inl (cI, 1951, .inl v_this_st)), (a_this_to, .inl (cJ, 512, .inr (.inl c_3.2.2.2)))]) (st := []) (c_X12_mayCome l D cI cJ cZ cH a_this a_this_before a_this_bestLead a_this_can a_this_given a_this_images a_this_isKept a_this_lead a_this_load a_this_most a_this_net a_this_on a_this_owes a_this_row a_this_silver a_this_st a_this_step a_this_to a_this_together a_this_value a_this_waits a_this_with v_this_above c_3.2.1 v_this_below v_this_steps v_this_waiting s_4.1 s_6 hc_8) gzX12_253 rfl rfl rfl eV_X12_mayCome ⟨Nat.le_of_ble_eq_true rfl, Nat.le_of_ble_eq_true rfl⟩ rfl 0 rfl rfl [0, 1] rfl rfl rfl rfl rfl (Nat.le_of_ble_eq_true rfl) (Nat.le_refl _) (Nat.le_refl _) rfl dX12_order_51 ?_
              refine ii_if_eq (tgt := 73) h dX12_order_54 (by decide) (fun h => ?_) (fun h => ?_)
              · skip
                refine ii_iinc (fun x_9 => [(4, .int x_9), (0, .ref a_this), (2, .int p1), (3, .int s_4.1), (5, .int s_4.2.2)]) h 3 dX12_order_73 rfl kc1 (by decide) (fun _ => rfl) (fun x_9 h => ?_)
                refine ii_goto (tgt := 47) dX12_order_76 (by decide) ?_
                refine ii_lv [1, 2, 3, 0, 4] rfl ?_
                cases h
                exact hb_6 x_9 rfl
              · skip
                refine ii_aload_n 0 dX12_order_57 rfl ?_
                refine ii_get (C := RX12) (T := TX12) (N := 25) (ci := 12) izX12 0 rfl rfl 20 (by decide) kX12_60 rfl dX12_order_58 ?_
                refine ii_iload_n 2 dX12_order_61 rfl ?_
                refine ii_iconst dX12_order_62 kc1 ?_
                refine ii_iload 3 dX12_order_63 rfl ?_
                refine ii_ishl dX12_order_65 ?_
                refine ii_ior dX12_order_66 ?_
                refine ii_lald h 2 1 rfl rfl dX12_order_67 (fun t_10 h => ?_)
                refine ii_lconst dX12_order_68 kl0 ?_
                refine ii_lcmp_ne (tgt := 79) h dX12_order_69 dX12_order_70 (by decide) (fun h => ?_) (fun h => ?_)
                · skip
                  cases h
                  exact hx_6 s_6 (hr_6 _ rfl)
                · skip
                  refine ii_iinc (fun x_11 => [(4, .int x_11), (0, .ref a_this), (2, .int p1), (3, .int s_4.1), (5, .int s_4.2.2)]) h 3 dX12_order_73 rfl kc1 (by decide) (fun _ => rfl) (fun x_11 h => ?_)
                  refine ii_goto (tgt := 47) dX12_order_76 (by decide) ?_
                  refine ii_lv [1, 2, 3, 0, 4] rfl ?_
                  cases h
                  exact hb_6 x_11 rfl
      · skip
        refine ii_iconst dX12_order_28 kcm1 ?_
        cases h
        exact hQ _ _ dX12_order_29
    · skip
      refine ii_bipush dX12_order_15 kbm2 ?_
      cases h
      exact hQ _ _ dX12_order_17
set_option maxHeartbeats 4000000 in
set_option maxRecDepth 100000 in
theorem c_X12_letter (l : Launch) (D : va_G) (cI cJ cZ cH : ClassId) (a_this a_this_before a_this_bestLead a_this_can a_this_given a_this_images a_this_isKept a_this_lead a_this_load a_this_most a_this_net a_this_on a_this_owes a_this_row a_this_silver a_this_st a_this_step a_this_to a_this_together a_this_value a_this_waits a_this_with : Nat) (v_this_above : Int64) (v_this_below : Int64) (v_this_st : Nat → Int32) (v_this_steps : Int32) (v_this_waiting : Int32) (p0 : Int32) (p1 : Int32) (p2 : Int32) (p3 : Int32) (p4 : Int32) {res : Int32 × (Nat → Int32)} (h : F_X12_letter v_this_st p0 p1 p2 p3 p4 = some res) : CTi l yX12_letter wzX12_letter { frames := 2, cells := 0, slots := 0, locals := 47 } D [(cI, .int), (cJ, .long), (cZ, .boolean), (cH, .object "TinHouse$House")] [.ref a_this, .int p0, .int p1, .int p2, .int p3, .int p4] [(a_this, .inr (12, [.ref a_this_st, .ref a_this_images, .ref a_this_isKept, .long v_this_above, .long v_this_below, .int v_this_steps, .ref a_this_step, .ref a_this_with, .int v_this_waiting, .ref a_this_waits, .ref a_this_value, .ref a_this_given, .ref a_this_net, .ref a_this_together, .ref a_this_most, .ref a_this_owes, .ref a_this_can, .ref a_this_row, .ref a_this_before, .ref a_this_to, .ref a_this_on, .ref a_this_load, .ref a_this_lead, .ref a_this_bestLead, .ref a_this_silver])), (a_this_st, .inl (cI, 1951, .inl v_this_st))] res.1 [(a_this, .inr (12, [.ref a_this_st, .ref a_this_images, .ref a_this_isKept, .long v_this_above, .long v_this_below, .int v_this_steps, .ref a_this_step, .ref a_this_with, .int v_this_waiting, .ref a_this_waits, .ref a_this_value, .ref a_this_given, .ref a_this_net, .ref a_this_together, .ref a_this_most, .ref a_this_owes, .ref a_this_can, .ref a_this_row, .ref a_this_before, .ref a_this_to, .ref a_this_on, .ref a_this_load, .ref a_this_lead, .ref a_this_bestLead, .ref a_this_silver])), (a_this_st, .inl (cI, 1951, .inl res.2))] := by
  unfold F_X12_letter at h
  refine ii_metI (own := RX12) (lv0 := [(0, .ref a_this), (1, .int p0), (2, .int p1), (3, .int p2), (4, .int p3), (5, .int p4)]) (by decide) rfl rfl rfl (Nat.le_of_ble_eq_true rfl) (fun {p e s m args below meth c A Q} hQ => ?_)
  refine ii_aload_n 0 dX12_letter_0 rfl ?_
  refine ii_iconst dX12_letter_1 kc0 ?_
  refine ii_iload_n 1 dX12_letter_2 rfl ?_
  obtain ⟨c_1, hc_1, h⟩ := bnd h
  refine ii_callVi (As := [.int (0 : Int32), .int p0]) (ws' := [(a_this, .inr (12, [.ref a_this_st, .ref a_this_images, .ref a_this_isKept, .long v_this_above, .long v_this_below, .int v_this_steps, .ref a_this_step, .ref a_this_with, .int v_this_waiting, .ref a_this_waits, .ref a_this_value, .ref a_this_given, .ref a_this_net, .ref a_this_together, .ref a_this_most, .ref a_this_owes, .ref a_this_can, .ref a_this_row, .ref a_this_before, .ref a_this_to, .ref a_this_on, .ref a_this_load, .ref a_this_lead, .ref a_this_bestLead, .ref a_this_silver])), (a_this_st, .inl (cI, 1951, .inl v_this_st))]) (st := []) (c_X12_is l D cI cJ cZ cH a_this a_this_before a_this_bestLead a_this_can a_this_given a_this_images a_this_isKept a_this_lead a_this_load a_this_most a_this_net a_this_on a_this_owes a_this_row a_this_silver a_this_st a_this_step a_this_to a_this_together a_this_value a_this_waits a_this_with v_this_above v_this_below v_this_st v_this_steps v_this_waiting (0 : Int32) p0 hc_1) gzX12_173 rfl rfl rfl eV_X12_is ⟨Nat.le_of_ble_eq_true rfl, Nat.le_of_ble_eq_true rfl⟩ rfl 0 rfl rfl [0, 1] rfl rfl rfl rfl rfl (Nat.le_of_ble_eq_true rfl) (Nat.le_refl _) (Nat.le_refl _) rfl dX12_letter_3 ?_
  refine ii_if_eq (tgt := 64) h dX12_letter_6 (by decide) (fun h => ?_) (fun h => ?_)
  · skip
    refine ii_bipush dX12_letter_64 kbm2 ?_
    cases h
    exact hQ _ _ dX12_letter_66
  · skip
    refine ii_aload_n 0 dX12_letter_9 rfl ?_
    refine ii_iconst dX12_letter_10 kc0 ?_
    refine ii_iload_n 2 dX12_letter_11 rfl ?_
    obtain ⟨c_2, hc_2, h⟩ := bnd h
    refine ii_callVi (As := [.int (0 : Int32), .int p1]) (ws' := [(a_this, .inr (12, [.ref a_this_st, .ref a_this_images, .ref a_this_isKept, .long v_this_above, .long v_this_below, .int v_this_steps, .ref a_this_step, .ref a_this_with, .int v_this_waiting, .ref a_this_waits, .ref a_this_value, .ref a_this_given, .ref a_this_net, .ref a_this_together, .ref a_this_most, .ref a_this_owes, .ref a_this_can, .ref a_this_row, .ref a_this_before, .ref a_this_to, .ref a_this_on, .ref a_this_load, .ref a_this_lead, .ref a_this_bestLead, .ref a_this_silver])), (a_this_st, .inl (cI, 1951, .inl v_this_st))]) (st := []) (c_X12_is l D cI cJ cZ cH a_this a_this_before a_this_bestLead a_this_can a_this_given a_this_images a_this_isKept a_this_lead a_this_load a_this_most a_this_net a_this_on a_this_owes a_this_row a_this_silver a_this_st a_this_step a_this_to a_this_together a_this_value a_this_waits a_this_with v_this_above v_this_below v_this_st v_this_steps v_this_waiting (0 : Int32) p1 hc_2) gzX12_173 rfl rfl rfl eV_X12_is ⟨Nat.le_of_ble_eq_true rfl, Nat.le_of_ble_eq_true rfl⟩ rfl 0 rfl rfl [0, 1] rfl rfl rfl rfl rfl (Nat.le_of_ble_eq_true rfl) (Nat.le_refl _) (Nat.le_refl _) rfl dX12_letter_12 ?_
    refine ii_if_eq (tgt := 64) h dX12_letter_15 (by decide) (fun h => ?_) (fun h => ?_)
    · skip
      refine ii_bipush dX12_letter_64 kbm2 ?_
      cases h
      exact hQ _ _ dX12_letter_66
    · skip
      refine ii_iload_n 1 dX12_letter_18 rfl ?_
      refine ii_iload_n 2 dX12_letter_19 rfl ?_
      refine ii_icmp_eq (tgt := 64) h dX12_letter_20 (by decide) (fun h => ?_) (fun h => ?_)
      · skip
        refine ii_bipush dX12_letter_64 kbm2 ?_
        cases h
        exact hQ _ _ dX12_letter_66
      · skip
        refine ii_iload_n 3 dX12_letter_23 rfl ?_
        refine ii_i2l dX12_letter_24 ?_
        refine ii_lconst dX12_letter_25 kl0 ?_
        refine ii_ldc2 (v := 9999) dX12_letter_26 kX12_266 ?_
        obtain ⟨c_3, hc_3, h⟩ := bnd h
        refine ii_callSi (As := [.long p2.toInt64, .long (0 : Int64), .long (9999 : Int64)]) (ws' := [(a_this, .inr (12, [.ref a_this_st, .ref a_this_images, .ref a_this_isKept, .long v_this_above, .long v_this_below, .int v_this_steps, .ref a_this_step, .ref a_this_with, .int v_this_waiting, .ref a_this_waits, .ref a_this_value, .ref a_this_given, .ref a_this_net, .ref a_this_together, .ref a_this_most, .ref a_this_owes, .ref a_this_can, .ref a_this_row, .ref a_this_before, .ref a_this_to, .ref a_this_on, .ref a_this_load, .ref a_this_lead, .ref a_this_bestLead, .ref a_this_silver])), (a_this_st, .inl (cI, 1951, .inl v_this_st))]) (st := []) (c_X12_in l D cI cJ cZ cH p2.toInt64 (0 : Int64) (9999 : Int64) hc_3) gzX12_79 rfl rfl rfl eS_X12_in ⟨Nat.le_of_ble_eq_true rfl, Nat.le_of_ble_eq_true rfl⟩ rfl [] rfl rfl rfl rfl rfl (Nat.le_of_ble_eq_true rfl) (Nat.le_refl _) (Nat.le_refl _) rfl dX12_letter_29 ?_
        refine ii_if_eq (tgt := 64) h dX12_letter_32 (by decide) (fun h => ?_) (fun h => ?_)
        · skip
          refine ii_bipush dX12_letter_64 kbm2 ?_
          cases h
          exact hQ _ _ dX12_letter_66
        · skip
          refine ii_iload 4 dX12_letter_35 rfl ?_
          refine ii_i2l dX12_letter_37 ?_
          refine ii_iload_n 3 dX12_letter_38 rfl ?_
          refine ii_i2l dX12_letter_39 ?_
          refine ii_ldc2 (v := 9999) dX12_letter_40 kX12_266 ?_
          obtain ⟨c_4, hc_4, h⟩ := bnd h
          refine ii_callSi (As := [.long p3.toInt64, .long p2.toInt64, .long (9999 : Int64)]) (ws' := [(a_this, .inr (12, [.ref a_this_st, .ref a_this_images, .ref a_this_isKept, .long v_this_above, .long v_this_below, .int v_this_steps, .ref a_this_step, .ref a_this_with, .int v_this_waiting, .ref a_this_waits, .ref a_this_value, .ref a_this_given, .ref a_this_net, .ref a_this_together, .ref a_this_most, .ref a_this_owes, .ref a_this_can, .ref a_this_row, .ref a_this_before, .ref a_this_to, .ref a_this_on, .ref a_this_load, .ref a_this_lead, .ref a_this_bestLead, .ref a_this_silver])), (a_this_st, .inl (cI, 1951, .inl v_this_st))]) (st := []) (c_X12_in l D cI cJ cZ cH p3.toInt64 p2.toInt64 (9999 : Int64) hc_4) gzX12_79 rfl rfl rfl eS_X12_in ⟨Nat.le_of_ble_eq_true rfl, Nat.le_of_ble_eq_true rfl⟩ rfl [] rfl rfl rfl rfl rfl (Nat.le_of_ble_eq_true rfl) (Nat.le_refl _) (Nat.le_refl _) rfl dX12_letter_43 ?_
          refine ii_if_eq (tgt := 64) h dX12_letter_46 (by decide) (fun h => ?_) (fun h => ?_)
          · skip
            refine ii_bipush dX12_letter_64 kbm2 ?_
            cases h
            exact hQ _ _ dX12_letter_66
          · skip
            refine ii_iload 5 dX12_letter_49 rfl ?_
            refine ii_i2l dX12_letter_51 ?_
            refine ii_ldc2 (v := -1) dX12_letter_52 kX12_268 ?_
            refine ii_ldc2 (v := 7) dX12_letter_55 kX12_270 ?_
            obtain ⟨c_5, hc_5, h⟩ := bnd h
            refine ii_callSi (As := [.long p4.toInt64, .long (-1 : Int64), .long (7 : Int64)]) (ws' := [(a_this, .inr (12, [.ref a_this_st, .ref a_this_images, .ref a_this_isKept, .long v_this_above, .long v_this_below, .int v_this_steps, .ref a_this_step, .ref a_this_with, .int v_this_waiting, .ref a_this_waits, .ref a_this_value, .ref a_this_given, .ref a_this_net, .ref a_this_together, .ref a_this_most, .ref a_this_owes, .ref a_this_can, .ref a_this_row, .ref a_this_before, .ref a_this_to, .ref a_this_on, .ref a_this_load, .ref a_this_lead, .ref a_this_bestLead, .ref a_this_silver])), (a_this_st, .inl (cI, 1951, .inl v_this_st))]) (st := []) (c_X12_in l D cI cJ cZ cH p4.toInt64 (-1 : Int64) (7 : Int64) hc_5) gzX12_79 rfl rfl rfl eS_X12_in ⟨Nat.le_of_ble_eq_true rfl, Nat.le_of_ble_eq_true rfl⟩ rfl [] rfl rfl rfl rfl rfl (Nat.le_of_ble_eq_true rfl) (Nat.le_refl _) (Nat.le_refl _) rfl dX12_letter_58 ?_
            refine ii_if_ne (tgt := 67) h dX12_letter_61 (by decide) (fun h => ?_) (fun h => ?_)
            · skip
              refine ii_aload_n 0 dX12_letter_67 rfl ?_
              refine ii_get (C := RX12) (T := TX12) (N := 25) (ci := 12) izX12 0 rfl rfl 0 (by decide) kX12_7 rfl dX12_letter_68 ?_
              refine ii_bipush dX12_letter_71 kb8 ?_
              refine ii_iald h 1 0 rfl rfl dX12_letter_73 (fun t_6 h => ?_)
              refine ii_bipush dX12_letter_74 kb30 ?_
              refine ii_icmp_ne (tgt := 82) h dX12_letter_76 (by decide) (fun h => ?_) (fun h => ?_)
              · skip
                refine ii_sipush dX12_letter_82 ks1753 ?_
                refine ii_iconst dX12_letter_85 kc5 ?_
                refine ii_aload_n 0 dX12_letter_86 rfl ?_
                refine ii_get (C := RX12) (T := TX12) (N := 25) (ci := 12) izX12 0 rfl rfl 0 (by decide) kX12_7 rfl dX12_letter_87 ?_
                refine ii_bipush dX12_letter_90 kb8 ?_
                refine ii_iald h 1 0 rfl rfl dX12_letter_92 (fun t_7 h => ?_)
                refine ii_imul dX12_letter_93 ?_
                refine ii_iadd dX12_letter_94 ?_
                refine ii_topI h (fun x_8 h => ?_)
                refine ii_istore (lv' := [(6, .int x_8), (0, .ref a_this), (1, .int p0), (2, .int p1), (3, .int p2), (4, .int p3), (5, .int p4)]) dX12_letter_95 (by decide) rfl ?_
                refine ii_aload_n 1 dX12_letter_97 rfl ?_
                refine ii_get (C := RX12) (T := TX12) (N := 25) (ci := 12) izX12 0 rfl rfl 0 (by decide) kX12_7 rfl dX12_letter_98 ?_
                refine ii_iload 0 dX12_letter_101 rfl ?_
                refine ii_iload_n 2 dX12_letter_103 rfl ?_
                refine ii_iast (fun g_9 => [(a_this, .inr (12, [.ref a_this_st, .ref a_this_images, .ref a_this_isKept, .long v_this_above, .long v_this_below, .int v_this_steps, .ref a_this_step, .ref a_this_with, .int v_this_waiting, .ref a_this_waits, .ref a_this_value, .ref a_this_given, .ref a_this_net, .ref a_this_together, .ref a_this_most, .ref a_this_owes, .ref a_this_can, .ref a_this_row, .ref a_this_before, .ref a_this_to, .ref a_this_on, .ref a_this_load, .ref a_this_lead, .ref a_this_bestLead, .ref a_this_silver])), (a_this_st, .inl (cI, 1951, .inl g_9))]) h 1 0 rfl rfl dX12_letter_104 (fun _ => rfl) (fun g_9 h => ?_)
                refine ii_aload_n 1 dX12_letter_105 rfl ?_
                refine ii_get (C := RX12) (T := TX12) (N := 25) (ci := 12) izX12 0 rfl rfl 0 (by decide) kX12_7 rfl dX12_letter_106 ?_
                refine ii_iload 0 dX12_letter_109 rfl ?_
                refine ii_iconst dX12_letter_111 kc1 ?_
                refine ii_iadd dX12_letter_112 ?_
                refine ii_iload_n 3 dX12_letter_113 rfl ?_
                refine ii_iast (fun g_10 => [(a_this, .inr (12, [.ref a_this_st, .ref a_this_images, .ref a_this_isKept, .long v_this_above, .long v_this_below, .int v_this_steps, .ref a_this_step, .ref a_this_with, .int v_this_waiting, .ref a_this_waits, .ref a_this_value, .ref a_this_given, .ref a_this_net, .ref a_this_together, .ref a_this_most, .ref a_this_owes, .ref a_this_can, .ref a_this_row, .ref a_this_before, .ref a_this_to, .ref a_this_on, .ref a_this_load, .ref a_this_lead, .ref a_this_bestLead, .ref a_this_silver])), (a_this_st, .inl (cI, 1951, .inl g_10))]) h 1 0 rfl rfl dX12_letter_114 (fun _ => rfl) (fun g_10 h => ?_)
                refine ii_aload_n 1 dX12_letter_115 rfl ?_
                refine ii_get (C := RX12) (T := TX12) (N := 25) (ci := 12) izX12 0 rfl rfl 0 (by decide) kX12_7 rfl dX12_letter_116 ?_
                refine ii_iload 0 dX12_letter_119 rfl ?_
                refine ii_iconst dX12_letter_121 kc2 ?_
                refine ii_iadd dX12_letter_122 ?_
                refine ii_iload_n 4 dX12_letter_123 rfl ?_
                refine ii_iast (fun g_11 => [(a_this, .inr (12, [.ref a_this_st, .ref a_this_images, .ref a_this_isKept, .long v_this_above, .long v_this_below, .int v_this_steps, .ref a_this_step, .ref a_this_with, .int v_this_waiting, .ref a_this_waits, .ref a_this_value, .ref a_this_given, .ref a_this_net, .ref a_this_together, .ref a_this_most, .ref a_this_owes, .ref a_this_can, .ref a_this_row, .ref a_this_before, .ref a_this_to, .ref a_this_on, .ref a_this_load, .ref a_this_lead, .ref a_this_bestLead, .ref a_this_silver])), (a_this_st, .inl (cI, 1951, .inl g_11))]) h 1 0 rfl rfl dX12_letter_124 (fun _ => rfl) (fun g_11 h => ?_)
                refine ii_aload_n 1 dX12_letter_125 rfl ?_
                refine ii_get (C := RX12) (T := TX12) (N := 25) (ci := 12) izX12 0 rfl rfl 0 (by decide) kX12_7 rfl dX12_letter_126 ?_
                refine ii_iload 0 dX12_letter_129 rfl ?_
                refine ii_iconst dX12_letter_131 kc3 ?_
                refine ii_iadd dX12_letter_132 ?_
                refine ii_iload 5 dX12_letter_133 rfl ?_
                refine ii_iast (fun g_12 => [(a_this, .inr (12, [.ref a_this_st, .ref a_this_images, .ref a_this_isKept, .long v_this_above, .long v_this_below, .int v_this_steps, .ref a_this_step, .ref a_this_with, .int v_this_waiting, .ref a_this_waits, .ref a_this_value, .ref a_this_given, .ref a_this_net, .ref a_this_together, .ref a_this_most, .ref a_this_owes, .ref a_this_can, .ref a_this_row, .ref a_this_before, .ref a_this_to, .ref a_this_on, .ref a_this_load, .ref a_this_lead, .ref a_this_bestLead, .ref a_this_silver])), (a_this_st, .inl (cI, 1951, .inl g_12))]) h 1 0 rfl rfl dX12_letter_135 (fun _ => rfl) (fun g_12 h => ?_)
                refine ii_aload_n 1 dX12_letter_136 rfl ?_
                refine ii_get (C := RX12) (T := TX12) (N := 25) (ci := 12) izX12 0 rfl rfl 0 (by decide) kX12_7 rfl dX12_letter_137 ?_
                refine ii_iload 0 dX12_letter_140 rfl ?_
                refine ii_iconst dX12_letter_142 kc4 ?_
                refine ii_iadd dX12_letter_143 ?_
                refine ii_iload 6 dX12_letter_144 rfl ?_
                refine ii_iast (fun g_13 => [(a_this, .inr (12, [.ref a_this_st, .ref a_this_images, .ref a_this_isKept, .long v_this_above, .long v_this_below, .int v_this_steps, .ref a_this_step, .ref a_this_with, .int v_this_waiting, .ref a_this_waits, .ref a_this_value, .ref a_this_given, .ref a_this_net, .ref a_this_together, .ref a_this_most, .ref a_this_owes, .ref a_this_can, .ref a_this_row, .ref a_this_before, .ref a_this_to, .ref a_this_on, .ref a_this_load, .ref a_this_lead, .ref a_this_bestLead, .ref a_this_silver])), (a_this_st, .inl (cI, 1951, .inl g_13))]) h 1 0 rfl rfl dX12_letter_146 (fun _ => rfl) (fun g_13 h => ?_)
                refine ii_aload_n 1 dX12_letter_147 rfl ?_
                refine ii_bipush dX12_letter_148 kb8 ?_
                obtain ⟨c_14, hc_14, h⟩ := bnd h
                refine ii_callVi (As := [.int (8 : Int32)]) (ws' := [(a_this, .inr (12, [.ref a_this_st, .ref a_this_images, .ref a_this_isKept, .long v_this_above, .long v_this_below, .int v_this_steps, .ref a_this_step, .ref a_this_with, .int v_this_waiting, .ref a_this_waits, .ref a_this_value, .ref a_this_given, .ref a_this_net, .ref a_this_together, .ref a_this_most, .ref a_this_owes, .ref a_this_can, .ref a_this_row, .ref a_this_before, .ref a_this_to, .ref a_this_on, .ref a_this_load, .ref a_this_lead, .ref a_this_bestLead, .ref a_this_silver])), (a_this_st, .inl (cI, 1951, .inl c_14.2))]) (st := []) (c_X12_one l D cI cJ cZ cH a_this a_this_before a_this_bestLead a_this_can a_this_given a_this_images a_this_isKept a_this_lead a_this_load a_this_most a_this_net a_this_on a_this_owes a_this_row a_this_silver a_this_st a_this_step a_this_to a_this_together a_this_value a_this_waits a_this_with v_this_above v_this_below g_13 v_this_steps v_this_waiting (8 : Int32) hc_14) gzX12_91 rfl rfl rfl eV_X12_one ⟨Nat.le_of_ble_eq_true rfl, Nat.le_of_ble_eq_true rfl⟩ rfl 0 rfl rfl [0, 1] rfl rfl rfl rfl rfl (Nat.le_of_ble_eq_true rfl) (Nat.le_refl _) (Nat.le_refl _) rfl dX12_letter_150 ?_
                cases h
                exact hQ _ _ dX12_letter_153
              · skip
                refine ii_bipush dX12_letter_79 kbm4 ?_
                cases h
                exact hQ _ _ dX12_letter_81
            · skip
              refine ii_bipush dX12_letter_64 kbm2 ?_
              cases h
              exact hQ _ _ dX12_letter_66
set_option maxHeartbeats 4000000 in
set_option maxRecDepth 100000 in
theorem c_X12_known (l : Launch) (D : va_G) (cI cJ cZ cH : ClassId) (a_this a_this_before a_this_bestLead a_this_can a_this_given a_this_images a_this_isKept a_this_lead a_this_load a_this_most a_this_net a_this_on a_this_owes a_this_row a_this_silver a_this_st a_this_step a_this_to a_this_together a_this_value a_this_waits a_this_with : Nat) (v_this_above : Int64) (v_this_below : Int64) (v_this_load : Nat → Int32) (v_this_st : Nat → Int32) (v_this_steps : Int32) (v_this_waiting : Int32) (p0 : Int32) (p1 : Int32) {res : Int32} (h : F_X12_known v_this_load v_this_st p0 p1 = some res) : CTi l yX12_known wzX12_known { frames := 0, cells := 0, slots := 0, locals := 0 } D [(cI, .int), (cJ, .long), (cZ, .boolean), (cH, .object "TinHouse$House")] [.ref a_this, .int p0, .int p1] [(a_this, .inr (12, [.ref a_this_st, .ref a_this_images, .ref a_this_isKept, .long v_this_above, .long v_this_below, .int v_this_steps, .ref a_this_step, .ref a_this_with, .int v_this_waiting, .ref a_this_waits, .ref a_this_value, .ref a_this_given, .ref a_this_net, .ref a_this_together, .ref a_this_most, .ref a_this_owes, .ref a_this_can, .ref a_this_row, .ref a_this_before, .ref a_this_to, .ref a_this_on, .ref a_this_load, .ref a_this_lead, .ref a_this_bestLead, .ref a_this_silver])), (a_this_load, .inl (cI, 30, .inl v_this_load)), (a_this_st, .inl (cI, 1951, .inl v_this_st))] res [(a_this, .inr (12, [.ref a_this_st, .ref a_this_images, .ref a_this_isKept, .long v_this_above, .long v_this_below, .int v_this_steps, .ref a_this_step, .ref a_this_with, .int v_this_waiting, .ref a_this_waits, .ref a_this_value, .ref a_this_given, .ref a_this_net, .ref a_this_together, .ref a_this_most, .ref a_this_owes, .ref a_this_can, .ref a_this_row, .ref a_this_before, .ref a_this_to, .ref a_this_on, .ref a_this_load, .ref a_this_lead, .ref a_this_bestLead, .ref a_this_silver])), (a_this_load, .inl (cI, 30, .inl v_this_load)), (a_this_st, .inl (cI, 1951, .inl v_this_st))] := by
  unfold F_X12_known at h
  refine ii_metI (own := RX12) (lv0 := [(0, .ref a_this), (1, .int p0), (2, .int p1)]) (by decide) rfl rfl rfl (Nat.le_of_ble_eq_true rfl) (fun {p e s m args below meth c A Q} hQ => ?_)
  refine ii_iconst dX12_known_0 kc0 ?_
  refine ii_istore_n (lv' := [(3, .int (0 : Int32)), (0, .ref a_this), (1, .int p0), (2, .int p1)]) dX12_known_1 rfl (by decide) rfl ?_
  refine ii_iconst dX12_known_2 kc0 ?_
  refine ii_istore (lv' := [(4, .int (0 : Int32)), (3, .int (0 : Int32)), (0, .ref a_this), (1, .int p0), (2, .int p1)]) dX12_known_3 (by decide) rfl ?_
  refine ii_lv [2, 3, 4, 1, 0] rfl ?_
  obtain ⟨x_2, hl_1, h⟩ := bnd h
  refine ii_loopX (fun s_1 => [(a_this, .inr (12, [.ref a_this_st, .ref a_this_images, .ref a_this_isKept, .long v_this_above, .long v_this_below, .int v_this_steps, .ref a_this_step, .ref a_this_with, .int v_this_waiting, .ref a_this_waits, .ref a_this_value, .ref a_this_given, .ref a_this_net, .ref a_this_together, .ref a_this_most, .ref a_this_owes, .ref a_this_can, .ref a_this_row, .ref a_this_before, .ref a_this_to, .ref a_this_on, .ref a_this_load, .ref a_this_lead, .ref a_this_bestLead, .ref a_this_silver])), (a_this_load, .inl (cI, 30, .inl v_this_load)), (a_this_st, .inl (cI, 1951, .inl v_this_st))]) (fun s_1 => [(0, .ref a_this), (1, .int p0), (2, .int p1), (3, .int s_1.1), (4, .int s_1.2)]) (fun x_2 => [(a_this, .inr (12, [.ref a_this_st, .ref a_this_images, .ref a_this_isKept, .long v_this_above, .long v_this_below, .int v_this_steps, .ref a_this_step, .ref a_this_with, .int v_this_waiting, .ref a_this_waits, .ref a_this_value, .ref a_this_given, .ref a_this_net, .ref a_this_together, .ref a_this_most, .ref a_this_owes, .ref a_this_can, .ref a_this_row, .ref a_this_before, .ref a_this_to, .ref a_this_on, .ref a_this_load, .ref a_this_lead, .ref a_this_bestLead, .ref a_this_silver])), (a_this_load, .inl (cI, 30, .inl v_this_load)), (a_this_st, .inl (cI, 1951, .inl v_this_st))]) (fun x_2 => [(3, .int x_2.1)]) 128 hl_1 rfl rfl ?_ (fun s_1 o h hb_1 hr_1 hx_1 => ?_)
  · skip
    refine ii_iload_n 0 dX12_known_128 rfl ?_
    cases h
    exact hQ _ _ dX12_known_129
  · skip
    refine ii_iload 4 dX12_known_5 rfl ?_
    refine ii_aload_n 0 dX12_known_7 rfl ?_
    refine ii_get (C := RX12) (T := TX12) (N := 25) (ci := 12) izX12 0 rfl rfl 0 (by decide) kX12_7 rfl dX12_known_8 ?_
    refine ii_bipush dX12_known_11 kb8 ?_
    refine ii_iald h 2 0 rfl rfl dX12_known_13 (fun t_3 h => ?_)
    refine ii_icmp_ge (tgt := 128) h dX12_known_14 (by decide) (fun h => ?_) (fun h => ?_)
    · skip
      refine ii_lv [3] rfl ?_
      cases h
      exact hx_1 (s_1.1, s_1.2) (hr_1 _ rfl)
    · skip
      refine ii_sipush dX12_known_17 ks1753 ?_
      refine ii_iconst dX12_known_20 kc5 ?_
      refine ii_iload 4 dX12_known_21 rfl ?_
      refine ii_imul dX12_known_23 ?_
      refine ii_iadd dX12_known_24 ?_
      refine ii_topI h (fun x_4 h => ?_)
      refine ii_istore (lv' := [(5, .int x_4), (0, .ref a_this), (1, .int p0), (2, .int p1), (3, .int s_1.1), (4, .int s_1.2)]) dX12_known_25 (by decide) rfl ?_
      refine ii_iload_n 4 dX12_known_27 rfl ?_
      refine ii_aload_n 1 dX12_known_28 rfl ?_
      refine ii_get (C := RX12) (T := TX12) (N := 25) (ci := 12) izX12 0 rfl rfl 0 (by decide) kX12_7 rfl dX12_known_29 ?_
      refine ii_iload 0 dX12_known_32 rfl ?_
      refine ii_iald h 2 0 rfl rfl dX12_known_34 (fun t_5 h => ?_)
      refine ii_iload_n 2 dX12_known_35 rfl ?_
      refine ii_jn h (fun j_6 => [(a_this, .inr (12, [.ref a_this_st, .ref a_this_images, .ref a_this_isKept, .long v_this_above, .long v_this_below, .int v_this_steps, .ref a_this_step, .ref a_this_with, .int v_this_waiting, .ref a_this_waits, .ref a_this_value, .ref a_this_given, .ref a_this_net, .ref a_this_together, .ref a_this_most, .ref a_this_owes, .ref a_this_can, .ref a_this_row, .ref a_this_before, .ref a_this_to, .ref a_this_on, .ref a_this_load, .ref a_this_lead, .ref a_this_bestLead, .ref a_this_silver])), (a_this_load, .inl (cI, 30, .inl v_this_load)), (a_this_st, .inl (cI, 1951, .inl v_this_st))]) (fun j_6 => [(0, .ref a_this), (1, .int p0), (2, .int p1), (4, .int s_1.2), (5, .int x_4)]) 80 (fun j_6 => [.int j_6, .int s_1.1]) (fun j_6 h => ?_) (fun j_6 h hjj_6 => ?_)
      · skip
        refine ii_ior dX12_known_80 ?_
        refine ii_topI h (fun x_10 h => ?_)
        refine ii_istore_n (lv' := [(3, .int x_10), (0, .ref a_this), (1, .int p0), (2, .int p1), (4, .int s_1.2), (5, .int x_4)]) dX12_known_81 rfl (by decide) rfl ?_
        refine ii_iload_n 0 dX12_known_82 rfl ?_
        refine ii_aload_n 1 dX12_known_83 rfl ?_
        refine ii_get (C := RX12) (T := TX12) (N := 25) (ci := 12) izX12 0 rfl rfl 0 (by decide) kX12_7 rfl dX12_known_84 ?_
        refine ii_iload 5 dX12_known_87 rfl ?_
        refine ii_iconst dX12_known_89 kc1 ?_
        refine ii_iadd dX12_known_90 ?_
        refine ii_iald h 2 0 rfl rfl dX12_known_91 (fun t_11 h => ?_)
        refine ii_iload_n 2 dX12_known_92 rfl ?_
        refine ii_jn h (fun j_12 => [(a_this, .inr (12, [.ref a_this_st, .ref a_this_images, .ref a_this_isKept, .long v_this_above, .long v_this_below, .int v_this_steps, .ref a_this_step, .ref a_this_with, .int v_this_waiting, .ref a_this_waits, .ref a_this_value, .ref a_this_given, .ref a_this_net, .ref a_this_together, .ref a_this_most, .ref a_this_owes, .ref a_this_can, .ref a_this_row, .ref a_this_before, .ref a_this_to, .ref a_this_on, .ref a_this_load, .ref a_this_lead, .ref a_this_bestLead, .ref a_this_silver])), (a_this_load, .inl (cI, 30, .inl v_this_load)), (a_this_st, .inl (cI, 1951, .inl v_this_st))]) (fun j_12 => [(0, .ref a_this), (1, .int p0), (2, .int p1), (4, .int s_1.2)]) 120 (fun j_12 => [.int j_12, .int x_10]) (fun j_12 h => ?_) (fun j_12 h hjj_12 => ?_)
        · skip
          refine ii_ior dX12_known_120 ?_
          refine ii_topI h (fun x_15 h => ?_)
          refine ii_istore_n (lv' := [(3, .int x_15), (0, .ref a_this), (1, .int p0), (2, .int p1), (4, .int s_1.2)]) dX12_known_121 rfl (by decide) rfl ?_
          refine ii_iinc (fun x_16 => [(4, .int x_16), (3, .int x_15), (0, .ref a_this), (1, .int p0), (2, .int p1)]) h 4 dX12_known_122 rfl kc1 (by decide) (fun _ => rfl) (fun x_16 h => ?_)
          refine ii_goto (tgt := 5) dX12_known_125 (by decide) ?_
          refine ii_lv [2, 3, 4, 1, 0] rfl ?_
          cases h
          exact hb_1 (x_15, x_16) rfl
        · skip
          refine ii_icmp_ne (tgt := 119) h dX12_known_93 (by decide) (fun h => ?_) (fun h => ?_)
          · skip
            refine ii_iconst dX12_known_119 kc0 ?_
            refine ii_lv [1, 2, 3, 4] rfl ?_
            cases h
            exact hjj_12
          · skip
            refine ii_aload_n 1 dX12_known_96 rfl ?_
            refine ii_get (C := RX12) (T := TX12) (N := 25) (ci := 12) izX12 0 rfl rfl 0 (by decide) kX12_7 rfl dX12_known_97 ?_
            refine ii_iload 5 dX12_known_100 rfl ?_
            refine ii_iconst dX12_known_102 kc3 ?_
            refine ii_iadd dX12_known_103 ?_
            refine ii_iald h 2 0 rfl rfl dX12_known_104 (fun t_13 h => ?_)
            refine ii_iload_n 3 dX12_known_105 rfl ?_
            refine ii_icmp_gt (tgt := 119) h dX12_known_106 (by decide) (fun h => ?_) (fun h => ?_)
            · skip
              refine ii_iconst dX12_known_119 kc0 ?_
              refine ii_lv [1, 2, 3, 4] rfl ?_
              cases h
              exact hjj_12
            · skip
              refine ii_aload_n 1 dX12_known_109 rfl ?_
              refine ii_get (C := RX12) (T := TX12) (N := 25) (ci := 12) izX12 0 rfl rfl 21 (by decide) kX12_63 rfl dX12_known_110 ?_
              refine ii_iload 4 dX12_known_113 rfl ?_
              refine ii_iald h 1 0 rfl rfl dX12_known_115 (fun t_14 h => ?_)
              refine ii_goto (tgt := 120) dX12_known_116 (by decide) ?_
              refine ii_lv [1, 2, 3, 4] rfl ?_
              cases h
              exact hjj_12
      · skip
        refine ii_icmp_ne (tgt := 79) h dX12_known_36 (by decide) (fun h => ?_) (fun h => ?_)
        · skip
          refine ii_iconst dX12_known_79 kc0 ?_
          refine ii_lv [1, 2, 3, 5, 0] rfl ?_
          cases h
          exact hjj_6
        · skip
          refine ii_aload_n 1 dX12_known_39 rfl ?_
          refine ii_get (C := RX12) (T := TX12) (N := 25) (ci := 12) izX12 0 rfl rfl 0 (by decide) kX12_7 rfl dX12_known_40 ?_
          refine ii_iload 0 dX12_known_43 rfl ?_
          refine ii_iconst dX12_known_45 kc2 ?_
          refine ii_iadd dX12_known_46 ?_
          refine ii_iald h 2 0 rfl rfl dX12_known_47 (fun t_7 h => ?_)
          refine ii_iload_n 3 dX12_known_48 rfl ?_
          refine ii_icmp_gt (tgt := 79) h dX12_known_49 (by decide) (fun h => ?_) (fun h => ?_)
          · skip
            refine ii_iconst dX12_known_79 kc0 ?_
            refine ii_lv [1, 2, 3, 5, 0] rfl ?_
            cases h
            exact hjj_6
          · skip
            refine ii_aload_n 1 dX12_known_52 rfl ?_
            refine ii_get (C := RX12) (T := TX12) (N := 25) (ci := 12) izX12 0 rfl rfl 0 (by decide) kX12_7 rfl dX12_known_53 ?_
            refine ii_iload 0 dX12_known_56 rfl ?_
            refine ii_iconst dX12_known_58 kc4 ?_
            refine ii_iadd dX12_known_59 ?_
            refine ii_iald h 2 0 rfl rfl dX12_known_60 (fun t_8 h => ?_)
            refine ii_iconst dX12_known_61 kcm1 ?_
            refine ii_icmp_eq (tgt := 79) h dX12_known_62 (by decide) (fun h => ?_) (fun h => ?_)
            · skip
              refine ii_iconst dX12_known_79 kc0 ?_
              refine ii_lv [1, 2, 3, 5, 0] rfl ?_
              cases h
              exact hjj_6
            · skip
              refine ii_iconst dX12_known_65 kc1 ?_
              refine ii_aload_n 1 dX12_known_66 rfl ?_
              refine ii_get (C := RX12) (T := TX12) (N := 25) (ci := 12) izX12 0 rfl rfl 0 (by decide) kX12_7 rfl dX12_known_67 ?_
              refine ii_iload 0 dX12_known_70 rfl ?_
              refine ii_iconst dX12_known_72 kc4 ?_
              refine ii_iadd dX12_known_73 ?_
              refine ii_iald h 2 0 rfl rfl dX12_known_74 (fun t_9 h => ?_)
              refine ii_ishl dX12_known_75 ?_
              refine ii_goto (tgt := 80) dX12_known_76 (by decide) ?_
              refine ii_lv [1, 2, 3, 5, 0] rfl ?_
              cases h
              exact hjj_6
set_option maxHeartbeats 4000000 in
set_option maxRecDepth 100000 in
theorem c_X12_findLoads (l : Launch) (D : va_G) (cI cJ cZ cH : ClassId) (a_this a_this_before a_this_bestLead a_this_can a_this_given a_this_images a_this_isKept a_this_lead a_this_load a_this_most a_this_net a_this_on a_this_owes a_this_row a_this_silver a_this_st a_this_step a_this_to a_this_together a_this_value a_this_waits a_this_with : Nat) (v_this_above : Int64) (v_this_below : Int64) (v_this_load : Nat → Int32) (v_this_st : Nat → Int32) (v_this_steps : Int32) (v_this_waiting : Int32) {res : (Nat → Int32)} (h : F_X12_findLoads v_this_load v_this_st = some res) : CTv l yX12_findLoads wzX12_findLoads { frames := 1, cells := 0, slots := 0, locals := 25 } D [(cI, .int), (cJ, .long), (cZ, .boolean), (cH, .object "TinHouse$House")] [.ref a_this] [(a_this, .inr (12, [.ref a_this_st, .ref a_this_images, .ref a_this_isKept, .long v_this_above, .long v_this_below, .int v_this_steps, .ref a_this_step, .ref a_this_with, .int v_this_waiting, .ref a_this_waits, .ref a_this_value, .ref a_this_given, .ref a_this_net, .ref a_this_together, .ref a_this_most, .ref a_this_owes, .ref a_this_can, .ref a_this_row, .ref a_this_before, .ref a_this_to, .ref a_this_on, .ref a_this_load, .ref a_this_lead, .ref a_this_bestLead, .ref a_this_silver])), (a_this_load, .inl (cI, 30, .inl v_this_load)), (a_this_st, .inl (cI, 1951, .inl v_this_st))] [(a_this, .inr (12, [.ref a_this_st, .ref a_this_images, .ref a_this_isKept, .long v_this_above, .long v_this_below, .int v_this_steps, .ref a_this_step, .ref a_this_with, .int v_this_waiting, .ref a_this_waits, .ref a_this_value, .ref a_this_given, .ref a_this_net, .ref a_this_together, .ref a_this_most, .ref a_this_owes, .ref a_this_can, .ref a_this_row, .ref a_this_before, .ref a_this_to, .ref a_this_on, .ref a_this_load, .ref a_this_lead, .ref a_this_bestLead, .ref a_this_silver])), (a_this_load, .inl (cI, 30, .inl res)), (a_this_st, .inl (cI, 1951, .inl v_this_st))] := by
  unfold F_X12_findLoads at h
  refine ii_metV (own := RX12) (lv0 := [(0, .ref a_this)]) (by decide) rfl rfl rfl (Nat.le_of_ble_eq_true rfl) (fun {p e s m args below meth c A Q} hQ => ?_)
  refine ii_iconst dX12_findLoads_0 kc0 ?_
  refine ii_istore_n (lv' := [(1, .int (0 : Int32)), (0, .ref a_this)]) dX12_findLoads_1 rfl (by decide) rfl ?_
  refine ii_lv [1, 0] rfl ?_
  obtain ⟨x_2, hl_1, h⟩ := bnd h
  refine ii_loopX (fun s_1 => [(a_this, .inr (12, [.ref a_this_st, .ref a_this_images, .ref a_this_isKept, .long v_this_above, .long v_this_below, .int v_this_steps, .ref a_this_step, .ref a_this_with, .int v_this_waiting, .ref a_this_waits, .ref a_this_value, .ref a_this_given, .ref a_this_net, .ref a_this_together, .ref a_this_most, .ref a_this_owes, .ref a_this_can, .ref a_this_row, .ref a_this_before, .ref a_this_to, .ref a_this_on, .ref a_this_load, .ref a_this_lead, .ref a_this_bestLead, .ref a_this_silver])), (a_this_load, .inl (cI, 30, .inl s_1.2)), (a_this_st, .inl (cI, 1951, .inl v_this_st))]) (fun s_1 => [(0, .ref a_this), (1, .int s_1.1)]) (fun x_2 => [(a_this, .inr (12, [.ref a_this_st, .ref a_this_images, .ref a_this_isKept, .long v_this_above, .long v_this_below, .int v_this_steps, .ref a_this_step, .ref a_this_with, .int v_this_waiting, .ref a_this_waits, .ref a_this_value, .ref a_this_given, .ref a_this_net, .ref a_this_together, .ref a_this_most, .ref a_this_owes, .ref a_this_can, .ref a_this_row, .ref a_this_before, .ref a_this_to, .ref a_this_on, .ref a_this_load, .ref a_this_lead, .ref a_this_bestLead, .ref a_this_silver])), (a_this_load, .inl (cI, 30, .inl x_2.2)), (a_this_st, .inl (cI, 1951, .inl v_this_st))]) (fun x_2 => [(0, .ref a_this)]) 21 hl_1 rfl rfl ?_ (fun s_1 o h hb_1 hr_1 hx_1 => ?_)
  · skip
    refine ii_iconst dX12_findLoads_21 kc1 ?_
    refine ii_istore_n (lv' := [(1, .int (1 : Int32)), (0, .ref a_this)]) dX12_findLoads_22 rfl (by decide) rfl ?_
    refine ii_lv [1, 0] rfl ?_
    obtain ⟨x_6, hl_5, h⟩ := bnd h
    refine ii_loopX (fun s_5 => [(a_this, .inr (12, [.ref a_this_st, .ref a_this_images, .ref a_this_isKept, .long v_this_above, .long v_this_below, .int v_this_steps, .ref a_this_step, .ref a_this_with, .int v_this_waiting, .ref a_this_waits, .ref a_this_value, .ref a_this_given, .ref a_this_net, .ref a_this_together, .ref a_this_most, .ref a_this_owes, .ref a_this_can, .ref a_this_row, .ref a_this_before, .ref a_this_to, .ref a_this_on, .ref a_this_load, .ref a_this_lead, .ref a_this_bestLead, .ref a_this_silver])), (a_this_load, .inl (cI, 30, .inl s_5.2)), (a_this_st, .inl (cI, 1951, .inl v_this_st))]) (fun s_5 => [(0, .ref a_this), (1, .int s_5.1)]) (fun x_6 => [(a_this, .inr (12, [.ref a_this_st, .ref a_this_images, .ref a_this_isKept, .long v_this_above, .long v_this_below, .int v_this_steps, .ref a_this_step, .ref a_this_with, .int v_this_waiting, .ref a_this_waits, .ref a_this_value, .ref a_this_given, .ref a_this_net, .ref a_this_together, .ref a_this_most, .ref a_this_owes, .ref a_this_can, .ref a_this_row, .ref a_this_before, .ref a_this_to, .ref a_this_on, .ref a_this_load, .ref a_this_lead, .ref a_this_bestLead, .ref a_this_silver])), (a_this_load, .inl (cI, 30, .inl x_6.2)), (a_this_st, .inl (cI, 1951, .inl v_this_st))]) (fun x_6 => []) 109 hl_5 rfl rfl ?_ (fun s_5 o h hb_5 hr_5 hx_5 => ?_)
    · skip
      cases h
      exact hQ _ _ dX12_findLoads_109
    · skip
      refine ii_iload_n 1 dX12_findLoads_23 rfl ?_
      refine ii_if_eq (tgt := 109) h dX12_findLoads_24 (by decide) (fun h => ?_) (fun h => ?_)
      · skip
        refine ii_lv [] rfl ?_
        cases h
        exact hx_5 (s_5.1, s_5.2) (hr_5 _ rfl)
      · skip
        refine ii_iconst dX12_findLoads_27 kc0 ?_
        refine ii_istore_n (lv' := [(1, .int (0 : Int32)), (0, .ref a_this)]) dX12_findLoads_28 rfl (by decide) rfl ?_
        refine ii_iconst dX12_findLoads_29 kc0 ?_
        refine ii_istore_n (lv' := [(2, .int (0 : Int32)), (1, .int (0 : Int32)), (0, .ref a_this)]) dX12_findLoads_30 rfl (by decide) rfl ?_
        refine ii_lv [2, 1, 0] rfl ?_
        obtain ⟨x_8, hl_7, h⟩ := bnd h
        refine ii_loopX (fun s_7 => [(a_this, .inr (12, [.ref a_this_st, .ref a_this_images, .ref a_this_isKept, .long v_this_above, .long v_this_below, .int v_this_steps, .ref a_this_step, .ref a_this_with, .int v_this_waiting, .ref a_this_waits, .ref a_this_value, .ref a_this_given, .ref a_this_net, .ref a_this_together, .ref a_this_most, .ref a_this_owes, .ref a_this_can, .ref a_this_row, .ref a_this_before, .ref a_this_to, .ref a_this_on, .ref a_this_load, .ref a_this_lead, .ref a_this_bestLead, .ref a_this_silver])), (a_this_load, .inl (cI, 30, .inl s_7.2.2)), (a_this_st, .inl (cI, 1951, .inl v_this_st))]) (fun s_7 => [(0, .ref a_this), (1, .int s_7.1), (2, .int s_7.2.1)]) (fun x_8 => [(a_this, .inr (12, [.ref a_this_st, .ref a_this_images, .ref a_this_isKept, .long v_this_above, .long v_this_below, .int v_this_steps, .ref a_this_step, .ref a_this_with, .int v_this_waiting, .ref a_this_waits, .ref a_this_value, .ref a_this_given, .ref a_this_net, .ref a_this_together, .ref a_this_most, .ref a_this_owes, .ref a_this_can, .ref a_this_row, .ref a_this_before, .ref a_this_to, .ref a_this_on, .ref a_this_load, .ref a_this_lead, .ref a_this_bestLead, .ref a_this_silver])), (a_this_load, .inl (cI, 30, .inl x_8.2.2)), (a_this_st, .inl (cI, 1951, .inl v_this_st))]) (fun x_8 => [(0, .ref a_this), (1, .int x_8.1)]) 106 hl_7 rfl rfl ?_ (fun s_7 o h hb_7 hr_7 hx_7 => ?_)
        · skip
          refine ii_goto (tgt := 23) dX12_findLoads_106 (by decide) ?_
          cases h
          exact hb_5 (x_8.1, x_8.2.2) rfl
        · skip
          refine ii_iload_n 2 dX12_findLoads_31 rfl ?_
          refine ii_aload_n 0 dX12_findLoads_32 rfl ?_
          refine ii_get (C := RX12) (T := TX12) (N := 25) (ci := 12) izX12 0 rfl rfl 0 (by decide) kX12_7 rfl dX12_findLoads_33 ?_
          refine ii_bipush dX12_findLoads_36 kb8 ?_
          refine ii_iald h 2 0 rfl rfl dX12_findLoads_38 (fun t_9 h => ?_)
          refine ii_icmp_ge (tgt := 106) h dX12_findLoads_39 (by decide) (fun h => ?_) (fun h => ?_)
          · skip
            refine ii_lv [0, 1] rfl ?_
            cases h
            exact hx_7 (s_7.1, s_7.2.1, s_7.2.2) (hr_7 _ rfl)
          · skip
            refine ii_aload_n 0 dX12_findLoads_42 rfl ?_
            refine ii_aload_n 0 dX12_findLoads_43 rfl ?_
            refine ii_get (C := RX12) (T := TX12) (N := 25) (ci := 12) izX12 0 rfl rfl 0 (by decide) kX12_7 rfl dX12_findLoads_44 ?_
            refine ii_sipush dX12_findLoads_47 ks1753 ?_
            refine ii_iconst dX12_findLoads_50 kc5 ?_
            refine ii_iload_n 2 dX12_findLoads_51 rfl ?_
            refine ii_imul dX12_findLoads_52 ?_
            refine ii_iadd dX12_findLoads_53 ?_
            refine ii_iald h 2 0 rfl rfl dX12_findLoads_54 (fun t_10 h => ?_)
            refine ii_aload_n 0 dX12_findLoads_55 rfl ?_
            refine ii_get (C := RX12) (T := TX12) (N := 25) (ci := 12) izX12 0 rfl rfl 0 (by decide) kX12_7 rfl dX12_findLoads_56 ?_
            refine ii_sipush dX12_findLoads_59 ks1753 ?_
            refine ii_iconst dX12_findLoads_62 kc5 ?_
            refine ii_iload_n 2 dX12_findLoads_63 rfl ?_
            refine ii_imul dX12_findLoads_64 ?_
            refine ii_iadd dX12_findLoads_65 ?_
            refine ii_iconst dX12_findLoads_66 kc2 ?_
            refine ii_iadd dX12_findLoads_67 ?_
            refine ii_iald h 2 0 rfl rfl dX12_findLoads_68 (fun t_11 h => ?_)
            obtain ⟨c_12, hc_12, h⟩ := bnd h
            refine ii_callVi (As := [.int t_10, .int t_11]) (ws' := [(a_this, .inr (12, [.ref a_this_st, .ref a_this_images, .ref a_this_isKept, .long v_this_above, .long v_this_below, .int v_this_steps, .ref a_this_step, .ref a_this_with, .int v_this_waiting, .ref a_this_waits, .ref a_this_value, .ref a_this_given, .ref a_this_net, .ref a_this_together, .ref a_this_most, .ref a_this_owes, .ref a_this_can, .ref a_this_row, .ref a_this_before, .ref a_this_to, .ref a_this_on, .ref a_this_load, .ref a_this_lead, .ref a_this_bestLead, .ref a_this_silver])), (a_this_load, .inl (cI, 30, .inl s_7.2.2)), (a_this_st, .inl (cI, 1951, .inl v_this_st))]) (st := []) (c_X12_known l D cI cJ cZ cH a_this a_this_before a_this_bestLead a_this_can a_this_given a_this_images a_this_isKept a_this_lead a_this_load a_this_most a_this_net a_this_on a_this_owes a_this_row a_this_silver a_this_st a_this_step a_this_to a_this_together a_this_value a_this_waits a_this_with v_this_above v_this_below s_7.2.2 v_this_st v_this_steps v_this_waiting t_10 t_11 hc_12) gzX12_272 rfl rfl rfl eV_X12_known ⟨Nat.le_of_ble_eq_true rfl, Nat.le_of_ble_eq_true rfl⟩ rfl 0 rfl rfl [0, 1, 2] rfl rfl rfl rfl rfl (Nat.le_of_ble_eq_true rfl) (Nat.le_refl _) (Nat.le_refl _) rfl dX12_findLoads_69 ?_
            refine ii_istore_n (lv' := [(3, .int c_12), (0, .ref a_this), (1, .int s_7.1), (2, .int s_7.2.1)]) dX12_findLoads_72 rfl (by decide) rfl ?_
            refine ii_iload_n 2 dX12_findLoads_73 rfl ?_
            refine ii_jn h (fun j_13 => [(a_this, .inr (12, [.ref a_this_st, .ref a_this_images, .ref a_this_isKept, .long v_this_above, .long v_this_below, .int v_this_steps, .ref a_this_step, .ref a_this_with, .int v_this_waiting, .ref a_this_waits, .ref a_this_value, .ref a_this_given, .ref a_this_net, .ref a_this_together, .ref a_this_most, .ref a_this_owes, .ref a_this_can, .ref a_this_row, .ref a_this_before, .ref a_this_to, .ref a_this_on, .ref a_this_load, .ref a_this_lead, .ref a_this_bestLead, .ref a_this_silver])), (a_this_load, .inl (cI, 30, .inl s_7.2.2)), (a_this_st, .inl (cI, 1951, .inl v_this_st))]) (fun j_13 => [(0, .ref a_this), (2, .int s_7.2.1), (3, .int c_12)]) 92 (fun j_13 => [.int j_13]) (fun j_13 h => ?_) (fun j_13 h hjj_13 => ?_)
            · skip
              refine ii_istore_n (lv' := [(1, .int j_13), (0, .ref a_this), (2, .int s_7.2.1), (3, .int c_12)]) dX12_findLoads_92 rfl (by decide) rfl ?_
              refine ii_aload_n 1 dX12_findLoads_93 rfl ?_
              refine ii_get (C := RX12) (T := TX12) (N := 25) (ci := 12) izX12 0 rfl rfl 21 (by decide) kX12_63 rfl dX12_findLoads_94 ?_
              refine ii_iload_n 2 dX12_findLoads_97 rfl ?_
              refine ii_iload_n 3 dX12_findLoads_98 rfl ?_
              refine ii_iast (fun g_15 => [(a_this, .inr (12, [.ref a_this_st, .ref a_this_images, .ref a_this_isKept, .long v_this_above, .long v_this_below, .int v_this_steps, .ref a_this_step, .ref a_this_with, .int v_this_waiting, .ref a_this_waits, .ref a_this_value, .ref a_this_given, .ref a_this_net, .ref a_this_together, .ref a_this_most, .ref a_this_owes, .ref a_this_can, .ref a_this_row, .ref a_this_before, .ref a_this_to, .ref a_this_on, .ref a_this_load, .ref a_this_lead, .ref a_this_bestLead, .ref a_this_silver])), (a_this_load, .inl (cI, 30, .inl g_15)), (a_this_st, .inl (cI, 1951, .inl v_this_st))]) h 1 0 rfl rfl dX12_findLoads_99 (fun _ => rfl) (fun g_15 h => ?_)
              refine ii_iinc (fun x_16 => [(2, .int x_16), (1, .int j_13), (0, .ref a_this), (3, .int c_12)]) h 2 dX12_findLoads_100 rfl kc1 (by decide) (fun _ => rfl) (fun x_16 h => ?_)
              refine ii_goto (tgt := 31) dX12_findLoads_103 (by decide) ?_
              refine ii_lv [2, 1, 0] rfl ?_
              cases h
              exact hb_7 (j_13, x_16, g_15) rfl
            · skip
              refine ii_if_ne (tgt := 87) h dX12_findLoads_74 (by decide) (fun h => ?_) (fun h => ?_)
              · skip
                refine ii_iconst dX12_findLoads_87 kc1 ?_
                refine ii_goto (tgt := 92) dX12_findLoads_88 (by decide) ?_
                refine ii_lv [1, 3, 0] rfl ?_
                cases h
                exact hjj_13
              · skip
                refine ii_iload_n 0 dX12_findLoads_77 rfl ?_
                refine ii_aload_n 1 dX12_findLoads_78 rfl ?_
                refine ii_get (C := RX12) (T := TX12) (N := 25) (ci := 12) izX12 0 rfl rfl 21 (by decide) kX12_63 rfl dX12_findLoads_79 ?_
                refine ii_iload_n 3 dX12_findLoads_82 rfl ?_
                refine ii_iald h 1 0 rfl rfl dX12_findLoads_83 (fun t_14 h => ?_)
                refine ii_icmp_eq (tgt := 91) h dX12_findLoads_84 (by decide) (fun h => ?_) (fun h => ?_)
                · skip
                  refine ii_iconst dX12_findLoads_91 kc0 ?_
                  refine ii_lv [1, 3, 0] rfl ?_
                  cases h
                  exact hjj_13
                · skip
                  refine ii_iconst dX12_findLoads_87 kc1 ?_
                  refine ii_goto (tgt := 92) dX12_findLoads_88 (by decide) ?_
                  refine ii_lv [1, 3, 0] rfl ?_
                  cases h
                  exact hjj_13
  · skip
    refine ii_iload_n 1 dX12_findLoads_2 rfl ?_
    refine ii_bipush dX12_findLoads_3 kb30 ?_
    refine ii_icmp_ge (tgt := 21) h dX12_findLoads_5 (by decide) (fun h => ?_) (fun h => ?_)
    · skip
      refine ii_lv [0] rfl ?_
      cases h
      exact hx_1 (s_1.1, s_1.2) (hr_1 _ rfl)
    · skip
      refine ii_aload_n 0 dX12_findLoads_8 rfl ?_
      refine ii_get (C := RX12) (T := TX12) (N := 25) (ci := 12) izX12 0 rfl rfl 21 (by decide) kX12_63 rfl dX12_findLoads_9 ?_
      refine ii_iload_n 1 dX12_findLoads_12 rfl ?_
      refine ii_iconst dX12_findLoads_13 kc0 ?_
      refine ii_iast (fun g_3 => [(a_this, .inr (12, [.ref a_this_st, .ref a_this_images, .ref a_this_isKept, .long v_this_above, .long v_this_below, .int v_this_steps, .ref a_this_step, .ref a_this_with, .int v_this_waiting, .ref a_this_waits, .ref a_this_value, .ref a_this_given, .ref a_this_net, .ref a_this_together, .ref a_this_most, .ref a_this_owes, .ref a_this_can, .ref a_this_row, .ref a_this_before, .ref a_this_to, .ref a_this_on, .ref a_this_load, .ref a_this_lead, .ref a_this_bestLead, .ref a_this_silver])), (a_this_load, .inl (cI, 30, .inl g_3)), (a_this_st, .inl (cI, 1951, .inl v_this_st))]) h 1 0 rfl rfl dX12_findLoads_14 (fun _ => rfl) (fun g_3 h => ?_)
      refine ii_iinc (fun x_4 => [(1, .int x_4), (0, .ref a_this)]) h 1 dX12_findLoads_15 rfl kc1 (by decide) (fun _ => rfl) (fun x_4 h => ?_)
      refine ii_goto (tgt := 2) dX12_findLoads_18 (by decide) ?_
      refine ii_lv [1, 0] rfl ?_
      cases h
      exact hb_1 (x_4, g_3) rfl
set_option maxHeartbeats 4000000 in
set_option maxRecDepth 100000 in
theorem c_X12_knows (l : Launch) (D : va_G) (cI cJ cZ cH : ClassId) (a_this a_this_before a_this_bestLead a_this_can a_this_given a_this_images a_this_isKept a_this_lead a_this_load a_this_most a_this_net a_this_on a_this_owes a_this_row a_this_silver a_this_st a_this_step a_this_to a_this_together a_this_value a_this_waits a_this_with : Nat) (v_this_above : Int64) (v_this_below : Int64) (v_this_load : Nat → Int32) (v_this_st : Nat → Int32) (v_this_steps : Int32) (v_this_waiting : Int32) (p0 : Int32) (p1 : Int32) (p2 : Int32) {res : Int32 × (Nat → Int32)} (h : F_X12_knows v_this_load v_this_st p0 p1 p2 = some res) : CTi l yX12_knows wzX12_knows { frames := 2, cells := 0, slots := 0, locals := 48 } D [(cI, .int), (cJ, .long), (cZ, .boolean), (cH, .object "TinHouse$House")] [.ref a_this, .int p0, .int p1, .int p2] [(a_this, .inr (12, [.ref a_this_st, .ref a_this_images, .ref a_this_isKept, .long v_this_above, .long v_this_below, .int v_this_steps, .ref a_this_step, .ref a_this_with, .int v_this_waiting, .ref a_this_waits, .ref a_this_value, .ref a_this_given, .ref a_this_net, .ref a_this_together, .ref a_this_most, .ref a_this_owes, .ref a_this_can, .ref a_this_row, .ref a_this_before, .ref a_this_to, .ref a_this_on, .ref a_this_load, .ref a_this_lead, .ref a_this_bestLead, .ref a_this_silver])), (a_this_load, .inl (cI, 30, .inl v_this_load)), (a_this_st, .inl (cI, 1951, .inl v_this_st))] res.1 [(a_this, .inr (12, [.ref a_this_st, .ref a_this_images, .ref a_this_isKept, .long v_this_above, .long v_this_below, .int v_this_steps, .ref a_this_step, .ref a_this_with, .int v_this_waiting, .ref a_this_waits, .ref a_this_value, .ref a_this_given, .ref a_this_net, .ref a_this_together, .ref a_this_most, .ref a_this_owes, .ref a_this_can, .ref a_this_row, .ref a_this_before, .ref a_this_to, .ref a_this_on, .ref a_this_load, .ref a_this_lead, .ref a_this_bestLead, .ref a_this_silver])), (a_this_load, .inl (cI, 30, .inl res.2)), (a_this_st, .inl (cI, 1951, .inl v_this_st))] := by
  unfold F_X12_knows at h
  refine ii_metI (own := RX12) (lv0 := [(0, .ref a_this), (1, .int p0), (2, .int p1), (3, .int p2)]) (by decide) rfl rfl rfl (Nat.le_of_ble_eq_true rfl) (fun {p e s m args below meth c A Q} hQ => ?_)
  refine ii_aload_n 0 dX12_knows_0 rfl ?_
  refine ii_iconst dX12_knows_1 kc0 ?_
  refine ii_iload_n 1 dX12_knows_2 rfl ?_
  obtain ⟨c_1, hc_1, h⟩ := bnd h
  refine ii_callVi (As := [.int (0 : Int32), .int p0]) (ws' := [(a_this, .inr (12, [.ref a_this_st, .ref a_this_images, .ref a_this_isKept, .long v_this_above, .long v_this_below, .int v_this_steps, .ref a_this_step, .ref a_this_with, .int v_this_waiting, .ref a_this_waits, .ref a_this_value, .ref a_this_given, .ref a_this_net, .ref a_this_together, .ref a_this_most, .ref a_this_owes, .ref a_this_can, .ref a_this_row, .ref a_this_before, .ref a_this_to, .ref a_this_on, .ref a_this_load, .ref a_this_lead, .ref a_this_bestLead, .ref a_this_silver])), (a_this_load, .inl (cI, 30, .inl v_this_load)), (a_this_st, .inl (cI, 1951, .inl v_this_st))]) (st := []) (c_X12_is l D cI cJ cZ cH a_this a_this_before a_this_bestLead a_this_can a_this_given a_this_images a_this_isKept a_this_lead a_this_load a_this_most a_this_net a_this_on a_this_owes a_this_row a_this_silver a_this_st a_this_step a_this_to a_this_together a_this_value a_this_waits a_this_with v_this_above v_this_below v_this_st v_this_steps v_this_waiting (0 : Int32) p0 hc_1) gzX12_173 rfl rfl rfl eV_X12_is ⟨Nat.le_of_ble_eq_true rfl, Nat.le_of_ble_eq_true rfl⟩ rfl 0 rfl rfl [0, 2] rfl rfl rfl rfl rfl (Nat.le_of_ble_eq_true rfl) (Nat.le_refl _) (Nat.le_refl _) rfl dX12_knows_3 ?_
  refine ii_if_eq (tgt := 33) h dX12_knows_6 (by decide) (fun h => ?_) (fun h => ?_)
  · skip
    refine ii_bipush dX12_knows_33 kbm2 ?_
    cases h
    exact hQ _ _ dX12_knows_35
  · skip
    refine ii_iload_n 2 dX12_knows_9 rfl ?_
    refine ii_i2l dX12_knows_10 ?_
    refine ii_lconst dX12_knows_11 kl0 ?_
    refine ii_ldc2 (v := 7) dX12_knows_12 kX12_270 ?_
    obtain ⟨c_2, hc_2, h⟩ := bnd h
    refine ii_callSi (As := [.long p1.toInt64, .long (0 : Int64), .long (7 : Int64)]) (ws' := [(a_this, .inr (12, [.ref a_this_st, .ref a_this_images, .ref a_this_isKept, .long v_this_above, .long v_this_below, .int v_this_steps, .ref a_this_step, .ref a_this_with, .int v_this_waiting, .ref a_this_waits, .ref a_this_value, .ref a_this_given, .ref a_this_net, .ref a_this_together, .ref a_this_most, .ref a_this_owes, .ref a_this_can, .ref a_this_row, .ref a_this_before, .ref a_this_to, .ref a_this_on, .ref a_this_load, .ref a_this_lead, .ref a_this_bestLead, .ref a_this_silver])), (a_this_load, .inl (cI, 30, .inl v_this_load)), (a_this_st, .inl (cI, 1951, .inl v_this_st))]) (st := []) (c_X12_in l D cI cJ cZ cH p1.toInt64 (0 : Int64) (7 : Int64) hc_2) gzX12_79 rfl rfl rfl eS_X12_in ⟨Nat.le_of_ble_eq_true rfl, Nat.le_of_ble_eq_true rfl⟩ rfl [] rfl rfl rfl rfl rfl (Nat.le_of_ble_eq_true rfl) (Nat.le_refl _) (Nat.le_refl _) rfl dX12_knows_15 ?_
    refine ii_if_eq (tgt := 33) h dX12_knows_18 (by decide) (fun h => ?_) (fun h => ?_)
    · skip
      refine ii_bipush dX12_knows_33 kbm2 ?_
      cases h
      exact hQ _ _ dX12_knows_35
    · skip
      refine ii_iload_n 3 dX12_knows_21 rfl ?_
      refine ii_i2l dX12_knows_22 ?_
      refine ii_lconst dX12_knows_23 kl0 ?_
      refine ii_ldc2 (v := 9999) dX12_knows_24 kX12_266 ?_
      obtain ⟨c_3, hc_3, h⟩ := bnd h
      refine ii_callSi (As := [.long p2.toInt64, .long (0 : Int64), .long (9999 : Int64)]) (ws' := [(a_this, .inr (12, [.ref a_this_st, .ref a_this_images, .ref a_this_isKept, .long v_this_above, .long v_this_below, .int v_this_steps, .ref a_this_step, .ref a_this_with, .int v_this_waiting, .ref a_this_waits, .ref a_this_value, .ref a_this_given, .ref a_this_net, .ref a_this_together, .ref a_this_most, .ref a_this_owes, .ref a_this_can, .ref a_this_row, .ref a_this_before, .ref a_this_to, .ref a_this_on, .ref a_this_load, .ref a_this_lead, .ref a_this_bestLead, .ref a_this_silver])), (a_this_load, .inl (cI, 30, .inl v_this_load)), (a_this_st, .inl (cI, 1951, .inl v_this_st))]) (st := []) (c_X12_in l D cI cJ cZ cH p2.toInt64 (0 : Int64) (9999 : Int64) hc_3) gzX12_79 rfl rfl rfl eS_X12_in ⟨Nat.le_of_ble_eq_true rfl, Nat.le_of_ble_eq_true rfl⟩ rfl [] rfl rfl rfl rfl rfl (Nat.le_of_ble_eq_true rfl) (Nat.le_refl _) (Nat.le_refl _) rfl dX12_knows_27 ?_
      refine ii_if_ne (tgt := 36) h dX12_knows_30 (by decide) (fun h => ?_) (fun h => ?_)
      · skip
        refine ii_aload_n 0 dX12_knows_36 rfl ?_
        obtain ⟨c_4, hc_4, h⟩ := bnd h
        refine ii_callVv (As := []) (ws' := [(a_this, .inr (12, [.ref a_this_st, .ref a_this_images, .ref a_this_isKept, .long v_this_above, .long v_this_below, .int v_this_steps, .ref a_this_step, .ref a_this_with, .int v_this_waiting, .ref a_this_waits, .ref a_this_value, .ref a_this_given, .ref a_this_net, .ref a_this_together, .ref a_this_most, .ref a_this_owes, .ref a_this_can, .ref a_this_row, .ref a_this_before, .ref a_this_to, .ref a_this_on, .ref a_this_load, .ref a_this_lead, .ref a_this_bestLead, .ref a_this_silver])), (a_this_load, .inl (cI, 30, .inl c_4)), (a_this_st, .inl (cI, 1951, .inl v_this_st))]) (st := []) (c_X12_findLoads l D cI cJ cZ cH a_this a_this_before a_this_bestLead a_this_can a_this_given a_this_images a_this_isKept a_this_lead a_this_load a_this_most a_this_net a_this_on a_this_owes a_this_row a_this_silver a_this_st a_this_step a_this_to a_this_together a_this_value a_this_waits a_this_with v_this_above v_this_below v_this_load v_this_st v_this_steps v_this_waiting hc_4) gzX12_275 rfl rfl rfl eV_X12_findLoads ⟨Nat.le_of_ble_eq_true rfl, Nat.le_of_ble_eq_true rfl⟩ rfl 0 rfl rfl [0, 1, 2] rfl rfl rfl rfl rfl (Nat.le_of_ble_eq_true rfl) (Nat.le_refl _) (Nat.le_refl _) rfl dX12_knows_37 ?_
        refine ii_aload_n 0 dX12_knows_40 rfl ?_
        refine ii_iload_n 1 dX12_knows_41 rfl ?_
        refine ii_iload_n 3 dX12_knows_42 rfl ?_
        obtain ⟨c_5, hc_5, h⟩ := bnd h
        refine ii_callVi (As := [.int p0, .int p2]) (ws' := [(a_this, .inr (12, [.ref a_this_st, .ref a_this_images, .ref a_this_isKept, .long v_this_above, .long v_this_below, .int v_this_steps, .ref a_this_step, .ref a_this_with, .int v_this_waiting, .ref a_this_waits, .ref a_this_value, .ref a_this_given, .ref a_this_net, .ref a_this_together, .ref a_this_most, .ref a_this_owes, .ref a_this_can, .ref a_this_row, .ref a_this_before, .ref a_this_to, .ref a_this_on, .ref a_this_load, .ref a_this_lead, .ref a_this_bestLead, .ref a_this_silver])), (a_this_load, .inl (cI, 30, .inl c_4)), (a_this_st, .inl (cI, 1951, .inl v_this_st))]) (st := []) (c_X12_known l D cI cJ cZ cH a_this a_this_before a_this_bestLead a_this_can a_this_given a_this_images a_this_isKept a_this_lead a_this_load a_this_most a_this_net a_this_on a_this_owes a_this_row a_this_silver a_this_st a_this_step a_this_to a_this_together a_this_value a_this_waits a_this_with v_this_above v_this_below c_4 v_this_st v_this_steps v_this_waiting p0 p2 hc_5) gzX12_272 rfl rfl rfl eV_X12_known ⟨Nat.le_of_ble_eq_true rfl, Nat.le_of_ble_eq_true rfl⟩ rfl 0 rfl rfl [0, 1, 2] rfl rfl rfl rfl rfl (Nat.le_of_ble_eq_true rfl) (Nat.le_refl _) (Nat.le_refl _) rfl dX12_knows_43 ?_
        refine ii_iload_n 2 dX12_knows_46 rfl ?_
        refine ii_ishr dX12_knows_47 ?_
        refine ii_iconst dX12_knows_48 kc1 ?_
        refine ii_iand dX12_knows_49 ?_
        cases h
        exact hQ _ _ dX12_knows_50
      · skip
        refine ii_bipush dX12_knows_33 kbm2 ?_
        cases h
        exact hQ _ _ dX12_knows_35
set_option maxHeartbeats 4000000 in
set_option maxRecDepth 100000 in
theorem c_X12_carries (l : Launch) (D : va_G) (cI cJ cZ cH : ClassId) (a_this a_this_before a_this_bestLead a_this_can a_this_given a_this_images a_this_isKept a_this_lead a_this_load a_this_most a_this_net a_this_on a_this_owes a_this_row a_this_silver a_this_st a_this_step a_this_to a_this_together a_this_value a_this_waits a_this_with : Nat) (v_this_above : Int64) (v_this_below : Int64) (v_this_load : Nat → Int32) (v_this_st : Nat → Int32) (v_this_steps : Int32) (v_this_waiting : Int32) (p0 : Int32) {res : Int32 × (Nat → Int32)} (h : F_X12_carries v_this_load v_this_st p0 = some res) : CTi l yX12_carries wzX12_carries { frames := 2, cells := 0, slots := 0, locals := 48 } D [(cI, .int), (cJ, .long), (cZ, .boolean), (cH, .object "TinHouse$House")] [.ref a_this, .int p0] [(a_this, .inr (12, [.ref a_this_st, .ref a_this_images, .ref a_this_isKept, .long v_this_above, .long v_this_below, .int v_this_steps, .ref a_this_step, .ref a_this_with, .int v_this_waiting, .ref a_this_waits, .ref a_this_value, .ref a_this_given, .ref a_this_net, .ref a_this_together, .ref a_this_most, .ref a_this_owes, .ref a_this_can, .ref a_this_row, .ref a_this_before, .ref a_this_to, .ref a_this_on, .ref a_this_load, .ref a_this_lead, .ref a_this_bestLead, .ref a_this_silver])), (a_this_load, .inl (cI, 30, .inl v_this_load)), (a_this_st, .inl (cI, 1951, .inl v_this_st))] res.1 [(a_this, .inr (12, [.ref a_this_st, .ref a_this_images, .ref a_this_isKept, .long v_this_above, .long v_this_below, .int v_this_steps, .ref a_this_step, .ref a_this_with, .int v_this_waiting, .ref a_this_waits, .ref a_this_value, .ref a_this_given, .ref a_this_net, .ref a_this_together, .ref a_this_most, .ref a_this_owes, .ref a_this_can, .ref a_this_row, .ref a_this_before, .ref a_this_to, .ref a_this_on, .ref a_this_load, .ref a_this_lead, .ref a_this_bestLead, .ref a_this_silver])), (a_this_load, .inl (cI, 30, .inl res.2)), (a_this_st, .inl (cI, 1951, .inl v_this_st))] := by
  unfold F_X12_carries at h
  refine ii_metI (own := RX12) (lv0 := [(0, .ref a_this), (1, .int p0)]) (by decide) rfl rfl rfl (Nat.le_of_ble_eq_true rfl) (fun {p e s m args below meth c A Q} hQ => ?_)
  refine ii_aload_n 0 dX12_carries_0 rfl ?_
  refine ii_bipush dX12_carries_1 kb8 ?_
  refine ii_iload_n 1 dX12_carries_3 rfl ?_
  obtain ⟨c_1, hc_1, h⟩ := bnd h
  refine ii_callVi (As := [.int (8 : Int32), .int p0]) (ws' := [(a_this, .inr (12, [.ref a_this_st, .ref a_this_images, .ref a_this_isKept, .long v_this_above, .long v_this_below, .int v_this_steps, .ref a_this_step, .ref a_this_with, .int v_this_waiting, .ref a_this_waits, .ref a_this_value, .ref a_this_given, .ref a_this_net, .ref a_this_together, .ref a_this_most, .ref a_this_owes, .ref a_this_can, .ref a_this_row, .ref a_this_before, .ref a_this_to, .ref a_this_on, .ref a_this_load, .ref a_this_lead, .ref a_this_bestLead, .ref a_this_silver])), (a_this_load, .inl (cI, 30, .inl v_this_load)), (a_this_st, .inl (cI, 1951, .inl v_this_st))]) (st := []) (c_X12_is l D cI cJ cZ cH a_this a_this_before a_this_bestLead a_this_can a_this_given a_this_images a_this_isKept a_this_lead a_this_load a_this_most a_this_net a_this_on a_this_owes a_this_row a_this_silver a_this_st a_this_step a_this_to a_this_together a_this_value a_this_waits a_this_with v_this_above v_this_below v_this_st v_this_steps v_this_waiting (8 : Int32) p0 hc_1) gzX12_173 rfl rfl rfl eV_X12_is ⟨Nat.le_of_ble_eq_true rfl, Nat.le_of_ble_eq_true rfl⟩ rfl 0 rfl rfl [0, 2] rfl rfl rfl rfl rfl (Nat.le_of_ble_eq_true rfl) (Nat.le_refl _) (Nat.le_refl _) rfl dX12_carries_4 ?_
  refine ii_if_ne (tgt := 13) h dX12_carries_7 (by decide) (fun h => ?_) (fun h => ?_)
  · skip
    refine ii_aload_n 0 dX12_carries_13 rfl ?_
    obtain ⟨c_2, hc_2, h⟩ := bnd h
    refine ii_callVv (As := []) (ws' := [(a_this, .inr (12, [.ref a_this_st, .ref a_this_images, .ref a_this_isKept, .long v_this_above, .long v_this_below, .int v_this_steps, .ref a_this_step, .ref a_this_with, .int v_this_waiting, .ref a_this_waits, .ref a_this_value, .ref a_this_given, .ref a_this_net, .ref a_this_together, .ref a_this_most, .ref a_this_owes, .ref a_this_can, .ref a_this_row, .ref a_this_before, .ref a_this_to, .ref a_this_on, .ref a_this_load, .ref a_this_lead, .ref a_this_bestLead, .ref a_this_silver])), (a_this_load, .inl (cI, 30, .inl c_2)), (a_this_st, .inl (cI, 1951, .inl v_this_st))]) (st := []) (c_X12_findLoads l D cI cJ cZ cH a_this a_this_before a_this_bestLead a_this_can a_this_given a_this_images a_this_isKept a_this_lead a_this_load a_this_most a_this_net a_this_on a_this_owes a_this_row a_this_silver a_this_st a_this_step a_this_to a_this_together a_this_value a_this_waits a_this_with v_this_above v_this_below v_this_load v_this_st v_this_steps v_this_waiting hc_2) gzX12_275 rfl rfl rfl eV_X12_findLoads ⟨Nat.le_of_ble_eq_true rfl, Nat.le_of_ble_eq_true rfl⟩ rfl 0 rfl rfl [0, 1, 2] rfl rfl rfl rfl rfl (Nat.le_of_ble_eq_true rfl) (Nat.le_refl _) (Nat.le_refl _) rfl dX12_carries_14 ?_
    refine ii_aload_n 0 dX12_carries_17 rfl ?_
    refine ii_get (C := RX12) (T := TX12) (N := 25) (ci := 12) izX12 0 rfl rfl 21 (by decide) kX12_63 rfl dX12_carries_18 ?_
    refine ii_iload_n 1 dX12_carries_21 rfl ?_
    refine ii_iald h 1 0 rfl rfl dX12_carries_22 (fun t_3 h => ?_)
    cases h
    exact hQ _ _ dX12_carries_23
  · skip
    refine ii_bipush dX12_carries_10 kbm2 ?_
    cases h
    exact hQ _ _ dX12_carries_12
set_option maxHeartbeats 4000000 in
set_option maxRecDepth 100000 in
theorem c_X12_mention (l : Launch) (D : va_G) (cI cJ cZ cH : ClassId) (a_this a_this_before a_this_bestLead a_this_can a_this_given a_this_images a_this_isKept a_this_lead a_this_load a_this_most a_this_net a_this_on a_this_owes a_this_row a_this_silver a_this_st a_this_step a_this_to a_this_together a_this_value a_this_waits a_this_with : Nat) (v_this_above : Int64) (v_this_below : Int64) (v_this_st : Nat → Int32) (v_this_steps : Int32) (v_this_waiting : Int32) (p0 : Int32) (p1 : Int32) (p2 : Int32) {res : Int32 × (Nat → Int32)} (h : F_X12_mention v_this_st p0 p1 p2 = some res) : CTi l yX12_mention wzX12_mention { frames := 2, cells := 0, slots := 0, locals := 45 } D [(cI, .int), (cJ, .long), (cZ, .boolean), (cH, .object "TinHouse$House")] [.ref a_this, .int p0, .int p1, .int p2] [(a_this, .inr (12, [.ref a_this_st, .ref a_this_images, .ref a_this_isKept, .long v_this_above, .long v_this_below, .int v_this_steps, .ref a_this_step, .ref a_this_with, .int v_this_waiting, .ref a_this_waits, .ref a_this_value, .ref a_this_given, .ref a_this_net, .ref a_this_together, .ref a_this_most, .ref a_this_owes, .ref a_this_can, .ref a_this_row, .ref a_this_before, .ref a_this_to, .ref a_this_on, .ref a_this_load, .ref a_this_lead, .ref a_this_bestLead, .ref a_this_silver])), (a_this_st, .inl (cI, 1951, .inl v_this_st))] res.1 [(a_this, .inr (12, [.ref a_this_st, .ref a_this_images, .ref a_this_isKept, .long v_this_above, .long v_this_below, .int v_this_steps, .ref a_this_step, .ref a_this_with, .int v_this_waiting, .ref a_this_waits, .ref a_this_value, .ref a_this_given, .ref a_this_net, .ref a_this_together, .ref a_this_most, .ref a_this_owes, .ref a_this_can, .ref a_this_row, .ref a_this_before, .ref a_this_to, .ref a_this_on, .ref a_this_load, .ref a_this_lead, .ref a_this_bestLead, .ref a_this_silver])), (a_this_st, .inl (cI, 1951, .inl res.2))] := by
  unfold F_X12_mention at h
  refine ii_metI (own := RX12) (lv0 := [(0, .ref a_this), (1, .int p0), (2, .int p1), (3, .int p2)]) (by decide) rfl rfl rfl (Nat.le_of_ble_eq_true rfl) (fun {p e s m args below meth c A Q} hQ => ?_)
  refine ii_iload_n 1 dX12_mention_0 rfl ?_
  refine ii_i2l dX12_mention_1 ?_
  refine ii_ldc2 (v := -1) dX12_mention_2 kX12_268 ?_
  refine ii_ldc2 (v := 4) dX12_mention_5 kX12_89 ?_
  obtain ⟨c_1, hc_1, h⟩ := bnd h
  refine ii_callSi (As := [.long p0.toInt64, .long (-1 : Int64), .long (4 : Int64)]) (ws' := [(a_this, .inr (12, [.ref a_this_st, .ref a_this_images, .ref a_this_isKept, .long v_this_above, .long v_this_below, .int v_this_steps, .ref a_this_step, .ref a_this_with, .int v_this_waiting, .ref a_this_waits, .ref a_this_value, .ref a_this_given, .ref a_this_net, .ref a_this_together, .ref a_this_most, .ref a_this_owes, .ref a_this_can, .ref a_this_row, .ref a_this_before, .ref a_this_to, .ref a_this_on, .ref a_this_load, .ref a_this_lead, .ref a_this_bestLead, .ref a_this_silver])), (a_this_st, .inl (cI, 1951, .inl v_this_st))]) (st := []) (c_X12_in l D cI cJ cZ cH p0.toInt64 (-1 : Int64) (4 : Int64) hc_1) gzX12_79 rfl rfl rfl eS_X12_in ⟨Nat.le_of_ble_eq_true rfl, Nat.le_of_ble_eq_true rfl⟩ rfl [] rfl rfl rfl rfl rfl (Nat.le_of_ble_eq_true rfl) (Nat.le_refl _) (Nat.le_refl _) rfl dX12_mention_8 ?_
  refine ii_if_eq (tgt := 35) h dX12_mention_11 (by decide) (fun h => ?_) (fun h => ?_)
  · skip
    refine ii_bipush dX12_mention_35 kbm2 ?_
    cases h
    exact hQ _ _ dX12_mention_37
  · skip
    refine ii_iload_n 2 dX12_mention_14 rfl ?_
    refine ii_i2l dX12_mention_15 ?_
    refine ii_ldc2 (v := -1) dX12_mention_16 kX12_268 ?_
    refine ii_ldc2 (v := 9) dX12_mention_19 kX12_248 ?_
    obtain ⟨c_2, hc_2, h⟩ := bnd h
    refine ii_callSi (As := [.long p1.toInt64, .long (-1 : Int64), .long (9 : Int64)]) (ws' := [(a_this, .inr (12, [.ref a_this_st, .ref a_this_images, .ref a_this_isKept, .long v_this_above, .long v_this_below, .int v_this_steps, .ref a_this_step, .ref a_this_with, .int v_this_waiting, .ref a_this_waits, .ref a_this_value, .ref a_this_given, .ref a_this_net, .ref a_this_together, .ref a_this_most, .ref a_this_owes, .ref a_this_can, .ref a_this_row, .ref a_this_before, .ref a_this_to, .ref a_this_on, .ref a_this_load, .ref a_this_lead, .ref a_this_bestLead, .ref a_this_silver])), (a_this_st, .inl (cI, 1951, .inl v_this_st))]) (st := []) (c_X12_in l D cI cJ cZ cH p1.toInt64 (-1 : Int64) (9 : Int64) hc_2) gzX12_79 rfl rfl rfl eS_X12_in ⟨Nat.le_of_ble_eq_true rfl, Nat.le_of_ble_eq_true rfl⟩ rfl [] rfl rfl rfl rfl rfl (Nat.le_of_ble_eq_true rfl) (Nat.le_refl _) (Nat.le_refl _) rfl dX12_mention_22 ?_
    refine ii_if_eq (tgt := 35) h dX12_mention_25 (by decide) (fun h => ?_) (fun h => ?_)
    · skip
      refine ii_bipush dX12_mention_35 kbm2 ?_
      cases h
      exact hQ _ _ dX12_mention_37
    · skip
      refine ii_iload_n 3 dX12_mention_28 rfl ?_
      obtain ⟨c_3, hc_3, h⟩ := bnd h
      refine ii_callSi (As := [.int p2]) (ws' := [(a_this, .inr (12, [.ref a_this_st, .ref a_this_images, .ref a_this_isKept, .long v_this_above, .long v_this_below, .int v_this_steps, .ref a_this_step, .ref a_this_with, .int v_this_waiting, .ref a_this_waits, .ref a_this_value, .ref a_this_given, .ref a_this_net, .ref a_this_together, .ref a_this_most, .ref a_this_owes, .ref a_this_can, .ref a_this_row, .ref a_this_before, .ref a_this_to, .ref a_this_on, .ref a_this_load, .ref a_this_lead, .ref a_this_bestLead, .ref a_this_silver])), (a_this_st, .inl (cI, 1951, .inl v_this_st))]) (st := []) (c_X12_isSeason l D cI cJ cZ cH p2 hc_3) gzX12_153 rfl rfl rfl eS_X12_isSeason ⟨Nat.le_of_ble_eq_true rfl, Nat.le_of_ble_eq_true rfl⟩ rfl [] rfl rfl rfl rfl rfl (Nat.le_of_ble_eq_true rfl) (Nat.le_refl _) (Nat.le_refl _) rfl dX12_mention_29 ?_
      refine ii_if_ne (tgt := 38) h dX12_mention_32 (by decide) (fun h => ?_) (fun h => ?_)
      · skip
        refine ii_aload_n 0 dX12_mention_38 rfl ?_
        refine ii_get (C := RX12) (T := TX12) (N := 25) (ci := 12) izX12 0 rfl rfl 0 (by decide) kX12_7 rfl dX12_mention_39 ?_
        refine ii_bipush dX12_mention_42 kb9 ?_
        refine ii_iald h 1 0 rfl rfl dX12_mention_44 (fun t_4 h => ?_)
        refine ii_bipush dX12_mention_45 kb10 ?_
        refine ii_icmp_ne (tgt := 53) h dX12_mention_47 (by decide) (fun h => ?_) (fun h => ?_)
        · skip
          refine ii_sipush dX12_mention_53 ks1903 ?_
          refine ii_iconst dX12_mention_56 kc3 ?_
          refine ii_aload_n 0 dX12_mention_57 rfl ?_
          refine ii_get (C := RX12) (T := TX12) (N := 25) (ci := 12) izX12 0 rfl rfl 0 (by decide) kX12_7 rfl dX12_mention_58 ?_
          refine ii_bipush dX12_mention_61 kb9 ?_
          refine ii_iald h 1 0 rfl rfl dX12_mention_63 (fun t_5 h => ?_)
          refine ii_imul dX12_mention_64 ?_
          refine ii_iadd dX12_mention_65 ?_
          refine ii_topI h (fun x_6 h => ?_)
          refine ii_istore (lv' := [(4, .int x_6), (0, .ref a_this), (1, .int p0), (2, .int p1), (3, .int p2)]) dX12_mention_66 (by decide) rfl ?_
          refine ii_aload_n 1 dX12_mention_68 rfl ?_
          refine ii_get (C := RX12) (T := TX12) (N := 25) (ci := 12) izX12 0 rfl rfl 0 (by decide) kX12_7 rfl dX12_mention_69 ?_
          refine ii_iload 0 dX12_mention_72 rfl ?_
          refine ii_iload_n 2 dX12_mention_74 rfl ?_
          refine ii_iast (fun g_7 => [(a_this, .inr (12, [.ref a_this_st, .ref a_this_images, .ref a_this_isKept, .long v_this_above, .long v_this_below, .int v_this_steps, .ref a_this_step, .ref a_this_with, .int v_this_waiting, .ref a_this_waits, .ref a_this_value, .ref a_this_given, .ref a_this_net, .ref a_this_together, .ref a_this_most, .ref a_this_owes, .ref a_this_can, .ref a_this_row, .ref a_this_before, .ref a_this_to, .ref a_this_on, .ref a_this_load, .ref a_this_lead, .ref a_this_bestLead, .ref a_this_silver])), (a_this_st, .inl (cI, 1951, .inl g_7))]) h 1 0 rfl rfl dX12_mention_75 (fun _ => rfl) (fun g_7 h => ?_)
          refine ii_aload_n 1 dX12_mention_76 rfl ?_
          refine ii_get (C := RX12) (T := TX12) (N := 25) (ci := 12) izX12 0 rfl rfl 0 (by decide) kX12_7 rfl dX12_mention_77 ?_
          refine ii_iload 0 dX12_mention_80 rfl ?_
          refine ii_iconst dX12_mention_82 kc1 ?_
          refine ii_iadd dX12_mention_83 ?_
          refine ii_iload_n 3 dX12_mention_84 rfl ?_
          refine ii_iast (fun g_8 => [(a_this, .inr (12, [.ref a_this_st, .ref a_this_images, .ref a_this_isKept, .long v_this_above, .long v_this_below, .int v_this_steps, .ref a_this_step, .ref a_this_with, .int v_this_waiting, .ref a_this_waits, .ref a_this_value, .ref a_this_given, .ref a_this_net, .ref a_this_together, .ref a_this_most, .ref a_this_owes, .ref a_this_can, .ref a_this_row, .ref a_this_before, .ref a_this_to, .ref a_this_on, .ref a_this_load, .ref a_this_lead, .ref a_this_bestLead, .ref a_this_silver])), (a_this_st, .inl (cI, 1951, .inl g_8))]) h 1 0 rfl rfl dX12_mention_85 (fun _ => rfl) (fun g_8 h => ?_)
          refine ii_aload_n 1 dX12_mention_86 rfl ?_
          refine ii_get (C := RX12) (T := TX12) (N := 25) (ci := 12) izX12 0 rfl rfl 0 (by decide) kX12_7 rfl dX12_mention_87 ?_
          refine ii_iload 0 dX12_mention_90 rfl ?_
          refine ii_iconst dX12_mention_92 kc2 ?_
          refine ii_iadd dX12_mention_93 ?_
          refine ii_iload_n 4 dX12_mention_94 rfl ?_
          refine ii_iast (fun g_9 => [(a_this, .inr (12, [.ref a_this_st, .ref a_this_images, .ref a_this_isKept, .long v_this_above, .long v_this_below, .int v_this_steps, .ref a_this_step, .ref a_this_with, .int v_this_waiting, .ref a_this_waits, .ref a_this_value, .ref a_this_given, .ref a_this_net, .ref a_this_together, .ref a_this_most, .ref a_this_owes, .ref a_this_can, .ref a_this_row, .ref a_this_before, .ref a_this_to, .ref a_this_on, .ref a_this_load, .ref a_this_lead, .ref a_this_bestLead, .ref a_this_silver])), (a_this_st, .inl (cI, 1951, .inl g_9))]) h 1 0 rfl rfl dX12_mention_95 (fun _ => rfl) (fun g_9 h => ?_)
          refine ii_aload_n 1 dX12_mention_96 rfl ?_
          refine ii_bipush dX12_mention_97 kb9 ?_
          obtain ⟨c_10, hc_10, h⟩ := bnd h
          refine ii_callVi (As := [.int (9 : Int32)]) (ws' := [(a_this, .inr (12, [.ref a_this_st, .ref a_this_images, .ref a_this_isKept, .long v_this_above, .long v_this_below, .int v_this_steps, .ref a_this_step, .ref a_this_with, .int v_this_waiting, .ref a_this_waits, .ref a_this_value, .ref a_this_given, .ref a_this_net, .ref a_this_together, .ref a_this_most, .ref a_this_owes, .ref a_this_can, .ref a_this_row, .ref a_this_before, .ref a_this_to, .ref a_this_on, .ref a_this_load, .ref a_this_lead, .ref a_this_bestLead, .ref a_this_silver])), (a_this_st, .inl (cI, 1951, .inl c_10.2))]) (st := []) (c_X12_one l D cI cJ cZ cH a_this a_this_before a_this_bestLead a_this_can a_this_given a_this_images a_this_isKept a_this_lead a_this_load a_this_most a_this_net a_this_on a_this_owes a_this_row a_this_silver a_this_st a_this_step a_this_to a_this_together a_this_value a_this_waits a_this_with v_this_above v_this_below g_9 v_this_steps v_this_waiting (9 : Int32) hc_10) gzX12_91 rfl rfl rfl eV_X12_one ⟨Nat.le_of_ble_eq_true rfl, Nat.le_of_ble_eq_true rfl⟩ rfl 0 rfl rfl [0, 1] rfl rfl rfl rfl rfl (Nat.le_of_ble_eq_true rfl) (Nat.le_refl _) (Nat.le_refl _) rfl dX12_mention_99 ?_
          cases h
          exact hQ _ _ dX12_mention_102
        · skip
          refine ii_bipush dX12_mention_50 kbm4 ?_
          cases h
          exact hQ _ _ dX12_mention_52
      · skip
        refine ii_bipush dX12_mention_35 kbm2 ?_
        cases h
        exact hQ _ _ dX12_mention_37
set_option maxHeartbeats 4000000 in
set_option maxRecDepth 100000 in
theorem c_X12_mayBeOne (l : Launch) (D : va_G) (cI cJ cZ cH : ClassId) (a_this a_this_before a_this_bestLead a_this_can a_this_given a_this_images a_this_isKept a_this_lead a_this_load a_this_most a_this_net a_this_on a_this_owes a_this_row a_this_silver a_this_st a_this_step a_this_to a_this_together a_this_value a_this_waits a_this_with : Nat) (v_this_above : Int64) (v_this_below : Int64) (v_this_st : Nat → Int32) (v_this_steps : Int32) (v_this_waiting : Int32) (p0 : Int32) (p1 : Int32) {res : Int32} (h : F_X12_mayBeOne v_this_st p0 p1 = some res) : CTi l yX12_mayBeOne wzX12_mayBeOne { frames := 1, cells := 0, slots := 0, locals := 25 } D [(cI, .int), (cJ, .long), (cZ, .boolean), (cH, .object "TinHouse$House")] [.ref a_this, .int p0, .int p1] [(a_this, .inr (12, [.ref a_this_st, .ref a_this_images, .ref a_this_isKept, .long v_this_above, .long v_this_below, .int v_this_steps, .ref a_this_step, .ref a_this_with, .int v_this_waiting, .ref a_this_waits, .ref a_this_value, .ref a_this_given, .ref a_this_net, .ref a_this_together, .ref a_this_most, .ref a_this_owes, .ref a_this_can, .ref a_this_row, .ref a_this_before, .ref a_this_to, .ref a_this_on, .ref a_this_load, .ref a_this_lead, .ref a_this_bestLead, .ref a_this_silver])), (a_this_st, .inl (cI, 1951, .inl v_this_st))] res [(a_this, .inr (12, [.ref a_this_st, .ref a_this_images, .ref a_this_isKept, .long v_this_above, .long v_this_below, .int v_this_steps, .ref a_this_step, .ref a_this_with, .int v_this_waiting, .ref a_this_waits, .ref a_this_value, .ref a_this_given, .ref a_this_net, .ref a_this_together, .ref a_this_most, .ref a_this_owes, .ref a_this_can, .ref a_this_row, .ref a_this_before, .ref a_this_to, .ref a_this_on, .ref a_this_load, .ref a_this_lead, .ref a_this_bestLead, .ref a_this_silver])), (a_this_st, .inl (cI, 1951, .inl v_this_st))] := by
  unfold F_X12_mayBeOne at h
  refine ii_metZ (own := RX12) (lv0 := [(0, .ref a_this), (1, .int p0), (2, .int p1)]) (by decide) rfl rfl rfl (Nat.le_of_ble_eq_true rfl) (fun {p e s m args below meth c A Q} hQ => ?_)
  refine ii_sipush dX12_mayBeOne_0 ks1903 ?_
  refine ii_iconst dX12_mayBeOne_3 kc3 ?_
  refine ii_iload_n 1 dX12_mayBeOne_4 rfl ?_
  refine ii_imul dX12_mayBeOne_5 ?_
  refine ii_iadd dX12_mayBeOne_6 ?_
  refine ii_topI h (fun x_1 h => ?_)
  refine ii_istore_n (lv' := [(3, .int x_1), (0, .ref a_this), (1, .int p0), (2, .int p1)]) dX12_mayBeOne_7 rfl (by decide) rfl ?_
  refine ii_sipush dX12_mayBeOne_8 ks1903 ?_
  refine ii_iconst dX12_mayBeOne_11 kc3 ?_
  refine ii_iload_n 3 dX12_mayBeOne_12 rfl ?_
  refine ii_imul dX12_mayBeOne_13 ?_
  refine ii_iadd dX12_mayBeOne_14 ?_
  refine ii_topI h (fun x_2 h => ?_)
  refine ii_istore (lv' := [(4, .int x_2), (3, .int x_1), (0, .ref a_this), (1, .int p0), (2, .int p1)]) dX12_mayBeOne_15 (by decide) rfl ?_
  refine ii_aload_n 2 dX12_mayBeOne_17 rfl ?_
  refine ii_get (C := RX12) (T := TX12) (N := 25) (ci := 12) izX12 0 rfl rfl 0 (by decide) kX12_7 rfl dX12_mayBeOne_18 ?_
  refine ii_iload_n 1 dX12_mayBeOne_21 rfl ?_
  refine ii_iald h 1 0 rfl rfl dX12_mayBeOne_22 (fun t_3 h => ?_)
  refine ii_iconst dX12_mayBeOne_23 kcm1 ?_
  refine ii_jn h (fun j_4 => [(a_this, .inr (12, [.ref a_this_st, .ref a_this_images, .ref a_this_isKept, .long v_this_above, .long v_this_below, .int v_this_steps, .ref a_this_step, .ref a_this_with, .int v_this_waiting, .ref a_this_waits, .ref a_this_value, .ref a_this_given, .ref a_this_net, .ref a_this_together, .ref a_this_most, .ref a_this_owes, .ref a_this_can, .ref a_this_row, .ref a_this_before, .ref a_this_to, .ref a_this_on, .ref a_this_load, .ref a_this_lead, .ref a_this_bestLead, .ref a_this_silver])), (a_this_st, .inl (cI, 1951, .inl v_this_st))]) (fun j_4 => [(0, .ref a_this), (3, .int x_1), (4, .int x_2)]) 59 (fun j_4 => [.int j_4]) (fun j_4 h => ?_) (fun j_4 h hjj_4 => ?_)
  · skip
    refine ii_istore (lv' := [(5, .int j_4), (0, .ref a_this), (3, .int x_1), (4, .int x_2)]) dX12_mayBeOne_59 (by decide) rfl ?_
    refine ii_aload_n 1 dX12_mayBeOne_61 rfl ?_
    refine ii_get (C := RX12) (T := TX12) (N := 25) (ci := 12) izX12 0 rfl rfl 0 (by decide) kX12_7 rfl dX12_mayBeOne_62 ?_
    refine ii_iload_n 2 dX12_mayBeOne_65 rfl ?_
    refine ii_iconst dX12_mayBeOne_66 kc1 ?_
    refine ii_iadd dX12_mayBeOne_67 ?_
    refine ii_iald h 1 0 rfl rfl dX12_mayBeOne_68 (fun t_8 h => ?_)
    refine ii_iconst dX12_mayBeOne_69 kcm1 ?_
    refine ii_jn h (fun j_9 => [(a_this, .inr (12, [.ref a_this_st, .ref a_this_images, .ref a_this_isKept, .long v_this_above, .long v_this_below, .int v_this_steps, .ref a_this_step, .ref a_this_with, .int v_this_waiting, .ref a_this_waits, .ref a_this_value, .ref a_this_given, .ref a_this_net, .ref a_this_together, .ref a_this_most, .ref a_this_owes, .ref a_this_can, .ref a_this_row, .ref a_this_before, .ref a_this_to, .ref a_this_on, .ref a_this_load, .ref a_this_lead, .ref a_this_bestLead, .ref a_this_silver])), (a_this_st, .inl (cI, 1951, .inl v_this_st))]) (fun j_9 => [(0, .ref a_this), (3, .int x_1), (4, .int x_2), (5, .int j_4)]) 111 (fun j_9 => [.int j_9]) (fun j_9 h => ?_) (fun j_9 h hjj_9 => ?_)
    · skip
      refine ii_istore (lv' := [(6, .int j_9), (0, .ref a_this), (3, .int x_1), (4, .int x_2), (5, .int j_4)]) dX12_mayBeOne_111 (by decide) rfl ?_
      refine ii_iload 4 dX12_mayBeOne_113 rfl ?_
      refine ii_jn h (fun j_13 => [(a_this, .inr (12, [.ref a_this_st, .ref a_this_images, .ref a_this_isKept, .long v_this_above, .long v_this_below, .int v_this_steps, .ref a_this_step, .ref a_this_with, .int v_this_waiting, .ref a_this_waits, .ref a_this_value, .ref a_this_given, .ref a_this_net, .ref a_this_together, .ref a_this_most, .ref a_this_owes, .ref a_this_can, .ref a_this_row, .ref a_this_before, .ref a_this_to, .ref a_this_on, .ref a_this_load, .ref a_this_lead, .ref a_this_bestLead, .ref a_this_silver])), (a_this_st, .inl (cI, 1951, .inl v_this_st))]) (fun j_13 => []) 159 (fun j_13 => [.int j_13]) (fun j_13 h => ?_) (fun j_13 h hjj_13 => ?_)
      · skip
        refine ii_topB h (fun t_17 hz_18 h => ?_)
        cases h
        exact hQ _ _ dX12_mayBeOne_159 hz_18
      · skip
        refine ii_if_eq (tgt := 158) h dX12_mayBeOne_115 (by decide) (fun h => ?_) (fun h => ?_)
        · skip
          refine ii_iconst dX12_mayBeOne_158 kc0 ?_
          refine ii_lv [] rfl ?_
          cases h
          exact hjj_13
        · skip
          refine ii_iload 0 dX12_mayBeOne_118 rfl ?_
          refine ii_if_eq (tgt := 158) h dX12_mayBeOne_120 (by decide) (fun h => ?_) (fun h => ?_)
          · skip
            refine ii_iconst dX12_mayBeOne_158 kc0 ?_
            refine ii_lv [] rfl ?_
            cases h
            exact hjj_13
          · skip
            refine ii_aload_n 1 dX12_mayBeOne_123 rfl ?_
            refine ii_get (C := RX12) (T := TX12) (N := 25) (ci := 12) izX12 0 rfl rfl 0 (by decide) kX12_7 rfl dX12_mayBeOne_124 ?_
            refine ii_iload_n 2 dX12_mayBeOne_127 rfl ?_
            refine ii_iconst dX12_mayBeOne_128 kc2 ?_
            refine ii_iadd dX12_mayBeOne_129 ?_
            refine ii_iald h 1 0 rfl rfl dX12_mayBeOne_130 (fun t_14 h => ?_)
            refine ii_aload_n 1 dX12_mayBeOne_131 rfl ?_
            refine ii_get (C := RX12) (T := TX12) (N := 25) (ci := 12) izX12 0 rfl rfl 0 (by decide) kX12_7 rfl dX12_mayBeOne_132 ?_
            refine ii_iload 3 dX12_mayBeOne_135 rfl ?_
            refine ii_iconst dX12_mayBeOne_137 kc2 ?_
            refine ii_iadd dX12_mayBeOne_138 ?_
            refine ii_iald h 1 0 rfl rfl dX12_mayBeOne_139 (fun t_15 h => ?_)
            refine ii_isub dX12_mayBeOne_140 ?_
            refine ii_i2l dX12_mayBeOne_141 ?_
            refine ii_ldc2 (v := -40) dX12_mayBeOne_142 kX12_278 ?_
            refine ii_ldc2 (v := 40) dX12_mayBeOne_145 kX12_280 ?_
            obtain ⟨c_16, hc_16, h⟩ := bnd h
            refine ii_callSi (As := [.long ((t_14 - t_15).toInt64), .long (-40 : Int64), .long (40 : Int64)]) (ws' := [(a_this, .inr (12, [.ref a_this_st, .ref a_this_images, .ref a_this_isKept, .long v_this_above, .long v_this_below, .int v_this_steps, .ref a_this_step, .ref a_this_with, .int v_this_waiting, .ref a_this_waits, .ref a_this_value, .ref a_this_given, .ref a_this_net, .ref a_this_together, .ref a_this_most, .ref a_this_owes, .ref a_this_can, .ref a_this_row, .ref a_this_before, .ref a_this_to, .ref a_this_on, .ref a_this_load, .ref a_this_lead, .ref a_this_bestLead, .ref a_this_silver])), (a_this_st, .inl (cI, 1951, .inl v_this_st))]) (st := []) (c_X12_in l D cI cJ cZ cH ((t_14 - t_15).toInt64) (-40 : Int64) (40 : Int64) hc_16) gzX12_79 rfl rfl rfl eS_X12_in ⟨Nat.le_of_ble_eq_true rfl, Nat.le_of_ble_eq_true rfl⟩ rfl [] rfl rfl rfl rfl rfl (Nat.le_of_ble_eq_true rfl) (Nat.le_refl _) (Nat.le_refl _) rfl dX12_mayBeOne_148 ?_
            refine ii_if_eq (tgt := 158) h dX12_mayBeOne_151 (by decide) (fun h => ?_) (fun h => ?_)
            · skip
              refine ii_iconst dX12_mayBeOne_158 kc0 ?_
              refine ii_lv [] rfl ?_
              cases h
              exact hjj_13
            · skip
              refine ii_iconst dX12_mayBeOne_154 kc1 ?_
              refine ii_goto (tgt := 159) dX12_mayBeOne_155 (by decide) ?_
              refine ii_lv [] rfl ?_
              cases h
              exact hjj_13
    · skip
      refine ii_icmp_eq (tgt := 106) h dX12_mayBeOne_70 (by decide) (fun h => ?_) (fun h => ?_)
      · skip
        refine ii_iconst dX12_mayBeOne_106 kc1 ?_
        refine ii_goto (tgt := 111) dX12_mayBeOne_107 (by decide) ?_
        refine ii_lv [1, 2, 3, 0] rfl ?_
        cases h
        exact hjj_9
      · skip
        refine ii_aload_n 1 dX12_mayBeOne_73 rfl ?_
        refine ii_get (C := RX12) (T := TX12) (N := 25) (ci := 12) izX12 0 rfl rfl 0 (by decide) kX12_7 rfl dX12_mayBeOne_74 ?_
        refine ii_iload 3 dX12_mayBeOne_77 rfl ?_
        refine ii_iconst dX12_mayBeOne_79 kc1 ?_
        refine ii_iadd dX12_mayBeOne_80 ?_
        refine ii_iald h 1 0 rfl rfl dX12_mayBeOne_81 (fun t_10 h => ?_)
        refine ii_iconst dX12_mayBeOne_82 kcm1 ?_
        refine ii_icmp_eq (tgt := 106) h dX12_mayBeOne_83 (by decide) (fun h => ?_) (fun h => ?_)
        · skip
          refine ii_iconst dX12_mayBeOne_106 kc1 ?_
          refine ii_goto (tgt := 111) dX12_mayBeOne_107 (by decide) ?_
          refine ii_lv [1, 2, 3, 0] rfl ?_
          cases h
          exact hjj_9
        · skip
          refine ii_aload_n 1 dX12_mayBeOne_86 rfl ?_
          refine ii_get (C := RX12) (T := TX12) (N := 25) (ci := 12) izX12 0 rfl rfl 0 (by decide) kX12_7 rfl dX12_mayBeOne_87 ?_
          refine ii_iload_n 2 dX12_mayBeOne_90 rfl ?_
          refine ii_iconst dX12_mayBeOne_91 kc1 ?_
          refine ii_iadd dX12_mayBeOne_92 ?_
          refine ii_iald h 1 0 rfl rfl dX12_mayBeOne_93 (fun t_11 h => ?_)
          refine ii_aload_n 1 dX12_mayBeOne_94 rfl ?_
          refine ii_get (C := RX12) (T := TX12) (N := 25) (ci := 12) izX12 0 rfl rfl 0 (by decide) kX12_7 rfl dX12_mayBeOne_95 ?_
          refine ii_iload 3 dX12_mayBeOne_98 rfl ?_
          refine ii_iconst dX12_mayBeOne_100 kc1 ?_
          refine ii_iadd dX12_mayBeOne_101 ?_
          refine ii_iald h 1 0 rfl rfl dX12_mayBeOne_102 (fun t_12 h => ?_)
          refine ii_icmp_ne (tgt := 110) h dX12_mayBeOne_103 (by decide) (fun h => ?_) (fun h => ?_)
          · skip
            refine ii_iconst dX12_mayBeOne_110 kc0 ?_
            refine ii_lv [1, 2, 3, 0] rfl ?_
            cases h
            exact hjj_9
          · skip
            refine ii_iconst dX12_mayBeOne_106 kc1 ?_
            refine ii_goto (tgt := 111) dX12_mayBeOne_107 (by decide) ?_
            refine ii_lv [1, 2, 3, 0] rfl ?_
            cases h
            exact hjj_9
  · skip
    refine ii_icmp_eq (tgt := 54) h dX12_mayBeOne_24 (by decide) (fun h => ?_) (fun h => ?_)
    · skip
      refine ii_iconst dX12_mayBeOne_54 kc1 ?_
      refine ii_goto (tgt := 59) dX12_mayBeOne_55 (by decide) ?_
      refine ii_lv [2, 1, 0] rfl ?_
      cases h
      exact hjj_4
    · skip
      refine ii_aload_n 2 dX12_mayBeOne_27 rfl ?_
      refine ii_get (C := RX12) (T := TX12) (N := 25) (ci := 12) izX12 0 rfl rfl 0 (by decide) kX12_7 rfl dX12_mayBeOne_28 ?_
      refine ii_iload 0 dX12_mayBeOne_31 rfl ?_
      refine ii_iald h 1 0 rfl rfl dX12_mayBeOne_33 (fun t_5 h => ?_)
      refine ii_iconst dX12_mayBeOne_34 kcm1 ?_
      refine ii_icmp_eq (tgt := 54) h dX12_mayBeOne_35 (by decide) (fun h => ?_) (fun h => ?_)
      · skip
        refine ii_iconst dX12_mayBeOne_54 kc1 ?_
        refine ii_goto (tgt := 59) dX12_mayBeOne_55 (by decide) ?_
        refine ii_lv [2, 1, 0] rfl ?_
        cases h
        exact hjj_4
      · skip
        refine ii_aload_n 2 dX12_mayBeOne_38 rfl ?_
        refine ii_get (C := RX12) (T := TX12) (N := 25) (ci := 12) izX12 0 rfl rfl 0 (by decide) kX12_7 rfl dX12_mayBeOne_39 ?_
        refine ii_iload_n 1 dX12_mayBeOne_42 rfl ?_
        refine ii_iald h 1 0 rfl rfl dX12_mayBeOne_43 (fun t_6 h => ?_)
        refine ii_aload_n 2 dX12_mayBeOne_44 rfl ?_
        refine ii_get (C := RX12) (T := TX12) (N := 25) (ci := 12) izX12 0 rfl rfl 0 (by decide) kX12_7 rfl dX12_mayBeOne_45 ?_
        refine ii_iload 0 dX12_mayBeOne_48 rfl ?_
        refine ii_iald h 1 0 rfl rfl dX12_mayBeOne_50 (fun t_7 h => ?_)
        refine ii_icmp_ne (tgt := 58) h dX12_mayBeOne_51 (by decide) (fun h => ?_) (fun h => ?_)
        · skip
          refine ii_iconst dX12_mayBeOne_58 kc0 ?_
          refine ii_lv [2, 1, 0] rfl ?_
          cases h
          exact hjj_4
        · skip
          refine ii_iconst dX12_mayBeOne_54 kc1 ?_
          refine ii_goto (tgt := 59) dX12_mayBeOne_55 (by decide) ?_
          refine ii_lv [2, 1, 0] rfl ?_
          cases h
          exact hjj_4
set_option maxHeartbeats 4000000 in
set_option maxRecDepth 100000 in
theorem c_X12_mayFollow (l : Launch) (D : va_G) (cI cJ cZ cH : ClassId) (a_this a_this_before a_this_bestLead a_this_can a_this_given a_this_images a_this_isKept a_this_lead a_this_load a_this_most a_this_net a_this_on a_this_owes a_this_row a_this_silver a_this_st a_this_step a_this_to a_this_together a_this_value a_this_waits a_this_with : Nat) (v_this_above : Int64) (v_this_below : Int64) (v_this_lead : Nat → Int32) (v_this_st : Nat → Int32) (v_this_steps : Int32) (v_this_waiting : Int32) (p0 : Int32) {res : Int32} (h : F_X12_mayFollow v_this_lead v_this_st p0 = some res) : CTi l yX12_mayFollow wzX12_mayFollow { frames := 2, cells := 0, slots := 0, locals := 51 } D [(cI, .int), (cJ, .long), (cZ, .boolean), (cH, .object "TinHouse$House")] [.ref a_this, .int p0] [(a_this, .inr (12, [.ref a_this_st, .ref a_this_images, .ref a_this_isKept, .long v_this_above, .long v_this_below, .int v_this_steps, .ref a_this_step, .ref a_this_with, .int v_this_waiting, .ref a_this_waits, .ref a_this_value, .ref a_this_given, .ref a_this_net, .ref a_this_together, .ref a_this_most, .ref a_this_owes, .ref a_this_can, .ref a_this_row, .ref a_this_before, .ref a_this_to, .ref a_this_on, .ref a_this_load, .ref a_this_lead, .ref a_this_bestLead, .ref a_this_silver])), (a_this_lead, .inl (cI, 10, .inl v_this_lead)), (a_this_st, .inl (cI, 1951, .inl v_this_st))] res [(a_this, .inr (12, [.ref a_this_st, .ref a_this_images, .ref a_this_isKept, .long v_this_above, .long v_this_below, .int v_this_steps, .ref a_this_step, .ref a_this_with, .int v_this_waiting, .ref a_this_waits, .ref a_this_value, .ref a_this_given, .ref a_this_net, .ref a_this_together, .ref a_this_most, .ref a_this_owes, .ref a_this_can, .ref a_this_row, .ref a_this_before, .ref a_this_to, .ref a_this_on, .ref a_this_load, .ref a_this_lead, .ref a_this_bestLead, .ref a_this_silver])), (a_this_lead, .inl (cI, 10, .inl v_this_lead)), (a_this_st, .inl (cI, 1951, .inl v_this_st))] := by
  unfold F_X12_mayFollow at h
  refine ii_metZ (own := RX12) (lv0 := [(0, .ref a_this), (1, .int p0)]) (by decide) rfl rfl rfl (Nat.le_of_ble_eq_true rfl) (fun {p e s m args below meth c A Q} hQ => ?_)
  refine ii_aload_n 0 dX12_mayFollow_0 rfl ?_
  refine ii_get (C := RX12) (T := TX12) (N := 25) (ci := 12) izX12 0 rfl rfl 22 (by decide) kX12_66 rfl dX12_mayFollow_1 ?_
  refine ii_iload_n 1 dX12_mayFollow_4 rfl ?_
  refine ii_iald h 1 0 rfl rfl dX12_mayFollow_5 (fun t_1 h => ?_)
  refine ii_iload_n 1 dX12_mayFollow_6 rfl ?_
  refine ii_icmp_ne (tgt := 12) h dX12_mayFollow_7 (by decide) (fun h => ?_) (fun h => ?_)
  · skip
    refine ii_aload_n 0 dX12_mayFollow_12 rfl ?_
    refine ii_get (C := RX12) (T := TX12) (N := 25) (ci := 12) izX12 0 rfl rfl 22 (by decide) kX12_66 rfl dX12_mayFollow_13 ?_
    refine ii_aload_n 0 dX12_mayFollow_16 rfl ?_
    refine ii_get (C := RX12) (T := TX12) (N := 25) (ci := 12) izX12 0 rfl rfl 22 (by decide) kX12_66 rfl dX12_mayFollow_17 ?_
    refine ii_iload_n 1 dX12_mayFollow_20 rfl ?_
    refine ii_iald h 1 0 rfl rfl dX12_mayFollow_21 (fun t_2 h => ?_)
    refine ii_iald h 1 0 rfl rfl dX12_mayFollow_22 (fun t_3 h => ?_)
    refine ii_aload_n 0 dX12_mayFollow_23 rfl ?_
    refine ii_get (C := RX12) (T := TX12) (N := 25) (ci := 12) izX12 0 rfl rfl 22 (by decide) kX12_66 rfl dX12_mayFollow_24 ?_
    refine ii_iload_n 1 dX12_mayFollow_27 rfl ?_
    refine ii_iald h 1 0 rfl rfl dX12_mayFollow_28 (fun t_4 h => ?_)
    refine ii_icmp_eq (tgt := 34) h dX12_mayFollow_29 (by decide) (fun h => ?_) (fun h => ?_)
    · skip
      refine ii_iconst dX12_mayFollow_34 kc0 ?_
      refine ii_istore_n (lv' := [(2, .int (0 : Int32)), (0, .ref a_this), (1, .int p0)]) dX12_mayFollow_35 rfl (by decide) rfl ?_
      refine ii_lv [1, 2, 0] rfl ?_
      obtain ⟨x_6, hl_5, ha_5⟩ := bnd h
      refine ii_loopR (fun s_5 => [(a_this, .inr (12, [.ref a_this_st, .ref a_this_images, .ref a_this_isKept, .long v_this_above, .long v_this_below, .int v_this_steps, .ref a_this_step, .ref a_this_with, .int v_this_waiting, .ref a_this_waits, .ref a_this_value, .ref a_this_given, .ref a_this_net, .ref a_this_together, .ref a_this_most, .ref a_this_owes, .ref a_this_can, .ref a_this_row, .ref a_this_before, .ref a_this_to, .ref a_this_on, .ref a_this_load, .ref a_this_lead, .ref a_this_bestLead, .ref a_this_silver])), (a_this_lead, .inl (cI, 10, .inl v_this_lead)), (a_this_st, .inl (cI, 1951, .inl v_this_st))]) (fun s_5 => [(0, .ref a_this), (1, .int p0), (2, .int s_5)]) (fun y_7 => [(a_this, .inr (12, [.ref a_this_st, .ref a_this_images, .ref a_this_isKept, .long v_this_above, .long v_this_below, .int v_this_steps, .ref a_this_step, .ref a_this_with, .int v_this_waiting, .ref a_this_waits, .ref a_this_value, .ref a_this_given, .ref a_this_net, .ref a_this_together, .ref a_this_most, .ref a_this_owes, .ref a_this_can, .ref a_this_row, .ref a_this_before, .ref a_this_to, .ref a_this_on, .ref a_this_load, .ref a_this_lead, .ref a_this_bestLead, .ref a_this_silver])), (a_this_lead, .inl (cI, 10, .inl v_this_lead)), (a_this_st, .inl (cI, 1951, .inl v_this_st))]) (fun y_7 => []) 73 hl_5 rfl rfl (fun y_7 hy => ?_) (fun s_5 o h hb_5 hr_5 hx_5 => ?_)
      · skip
        subst hy
        have h := sm_l ha_5
        refine ii_iconst dX12_mayFollow_73 kc1 ?_
        cases h
        exact hQ _ _ dX12_mayFollow_74 (Or.inr rfl)
      · skip
        refine ii_iload_n 2 dX12_mayFollow_36 rfl ?_
        refine ii_iload_n 1 dX12_mayFollow_37 rfl ?_
        refine ii_icmp_ge (tgt := 73) h dX12_mayFollow_38 (by decide) (fun h => ?_) (fun h => ?_)
        · skip
          refine ii_lv [] rfl ?_
          cases h
          exact hx_5 s_5 (hr_5 _ rfl)
        · skip
          refine ii_aload_n 0 dX12_mayFollow_41 rfl ?_
          refine ii_get (C := RX12) (T := TX12) (N := 25) (ci := 12) izX12 0 rfl rfl 22 (by decide) kX12_66 rfl dX12_mayFollow_42 ?_
          refine ii_iload_n 2 dX12_mayFollow_45 rfl ?_
          refine ii_iald h 1 0 rfl rfl dX12_mayFollow_46 (fun t_8 h => ?_)
          refine ii_aload_n 0 dX12_mayFollow_47 rfl ?_
          refine ii_get (C := RX12) (T := TX12) (N := 25) (ci := 12) izX12 0 rfl rfl 22 (by decide) kX12_66 rfl dX12_mayFollow_48 ?_
          refine ii_iload_n 1 dX12_mayFollow_51 rfl ?_
          refine ii_iald h 1 0 rfl rfl dX12_mayFollow_52 (fun t_9 h => ?_)
          refine ii_icmp_ne (tgt := 67) h dX12_mayFollow_53 (by decide) (fun h => ?_) (fun h => ?_)
          · skip
            refine ii_iinc (fun x_10 => [(2, .int x_10), (0, .ref a_this), (1, .int p0)]) h 2 dX12_mayFollow_67 rfl kc1 (by decide) (fun _ => rfl) (fun x_10 h => ?_)
            refine ii_goto (tgt := 36) dX12_mayFollow_70 (by decide) ?_
            refine ii_lv [1, 2, 0] rfl ?_
            cases h
            exact hb_5 x_10 rfl
          · skip
            refine ii_aload_n 0 dX12_mayFollow_56 rfl ?_
            refine ii_iload_n 1 dX12_mayFollow_57 rfl ?_
            refine ii_iload_n 2 dX12_mayFollow_58 rfl ?_
            obtain ⟨c_11, hc_11, h⟩ := bnd h
            refine ii_callVi (As := [.int p0, .int s_5]) (ws' := [(a_this, .inr (12, [.ref a_this_st, .ref a_this_images, .ref a_this_isKept, .long v_this_above, .long v_this_below, .int v_this_steps, .ref a_this_step, .ref a_this_with, .int v_this_waiting, .ref a_this_waits, .ref a_this_value, .ref a_this_given, .ref a_this_net, .ref a_this_together, .ref a_this_most, .ref a_this_owes, .ref a_this_can, .ref a_this_row, .ref a_this_before, .ref a_this_to, .ref a_this_on, .ref a_this_load, .ref a_this_lead, .ref a_this_bestLead, .ref a_this_silver])), (a_this_lead, .inl (cI, 10, .inl v_this_lead)), (a_this_st, .inl (cI, 1951, .inl v_this_st))]) (st := []) (c_X12_mayBeOne l D cI cJ cZ cH a_this a_this_before a_this_bestLead a_this_can a_this_given a_this_images a_this_isKept a_this_lead a_this_load a_this_most a_this_net a_this_on a_this_owes a_this_row a_this_silver a_this_st a_this_step a_this_to a_this_together a_this_value a_this_waits a_this_with v_this_above v_this_below v_this_st v_this_steps v_this_waiting p0 s_5 hc_11) gzX12_282 rfl rfl rfl eV_X12_mayBeOne ⟨Nat.le_of_ble_eq_true rfl, Nat.le_of_ble_eq_true rfl⟩ rfl 0 rfl rfl [0, 2] rfl rfl rfl rfl rfl (Nat.le_of_ble_eq_true rfl) (Nat.le_refl _) (Nat.le_refl _) rfl dX12_mayFollow_59 ?_
            refine ii_if_ne (tgt := 67) h dX12_mayFollow_62 (by decide) (fun h => ?_) (fun h => ?_)
            · skip
              refine ii_iinc (fun x_12 => [(2, .int x_12), (0, .ref a_this), (1, .int p0)]) h 2 dX12_mayFollow_67 rfl kc1 (by decide) (fun _ => rfl) (fun x_12 h => ?_)
              refine ii_goto (tgt := 36) dX12_mayFollow_70 (by decide) ?_
              refine ii_lv [1, 2, 0] rfl ?_
              cases h
              exact hb_5 x_12 rfl
            · skip
              refine ii_iconst dX12_mayFollow_65 kc0 ?_
              cases h
              cases hr_5 _ rfl
              have h := sm_r ha_5
              cases h
              exact hQ _ _ dX12_mayFollow_66 (Or.inl rfl)
    · skip
      refine ii_iconst dX12_mayFollow_32 kc0 ?_
      cases h
      exact hQ _ _ dX12_mayFollow_33 (Or.inl rfl)
  · skip
    refine ii_iconst dX12_mayFollow_10 kc1 ?_
    cases h
    exact hQ _ _ dX12_mayFollow_11 (Or.inr rfl)
set_option maxHeartbeats 4000000 in
set_option maxRecDepth 100000 in
theorem c_X12_findMen (l : Launch) (D : va_G) (cI cJ cZ cH : ClassId) (a_this a_this_before a_this_bestLead a_this_can a_this_given a_this_images a_this_isKept a_this_lead a_this_load a_this_most a_this_net a_this_on a_this_owes a_this_row a_this_silver a_this_st a_this_step a_this_to a_this_together a_this_value a_this_waits a_this_with : Nat) (v_this_above : Int64) (v_this_below : Int64) (v_this_bestLead : Nat → Int32) (v_this_lead : Nat → Int32) (v_this_st : Nat → Int32) (v_this_steps : Int32) (v_this_waiting : Int32) {res : Int32 × (Nat → Int32) × (Nat → Int32)} (h : F_X12_findMen v_this_bestLead v_this_lead v_this_st = some res) : CTi l yX12_findMen wzX12_findMen { frames := 3, cells := 0, slots := 0, locals := 73 } D [(cI, .int), (cJ, .long), (cZ, .boolean), (cH, .object "TinHouse$House")] [.ref a_this] [(a_this, .inr (12, [.ref a_this_st, .ref a_this_images, .ref a_this_isKept, .long v_this_above, .long v_this_below, .int v_this_steps, .ref a_this_step, .ref a_this_with, .int v_this_waiting, .ref a_this_waits, .ref a_this_value, .ref a_this_given, .ref a_this_net, .ref a_this_together, .ref a_this_most, .ref a_this_owes, .ref a_this_can, .ref a_this_row, .ref a_this_before, .ref a_this_to, .ref a_this_on, .ref a_this_load, .ref a_this_lead, .ref a_this_bestLead, .ref a_this_silver])), (a_this_bestLead, .inl (cI, 10, .inl v_this_bestLead)), (a_this_lead, .inl (cI, 10, .inl v_this_lead)), (a_this_st, .inl (cI, 1951, .inl v_this_st))] res.1 [(a_this, .inr (12, [.ref a_this_st, .ref a_this_images, .ref a_this_isKept, .long v_this_above, .long v_this_below, .int v_this_steps, .ref a_this_step, .ref a_this_with, .int v_this_waiting, .ref a_this_waits, .ref a_this_value, .ref a_this_given, .ref a_this_net, .ref a_this_together, .ref a_this_most, .ref a_this_owes, .ref a_this_can, .ref a_this_row, .ref a_this_before, .ref a_this_to, .ref a_this_on, .ref a_this_load, .ref a_this_lead, .ref a_this_bestLead, .ref a_this_silver])), (a_this_bestLead, .inl (cI, 10, .inl res.2.1)), (a_this_lead, .inl (cI, 10, .inl res.2.2)), (a_this_st, .inl (cI, 1951, .inl v_this_st))] := by
  unfold F_X12_findMen at h
  refine ii_metI (own := RX12) (lv0 := [(0, .ref a_this)]) (by decide) rfl rfl rfl (Nat.le_of_ble_eq_true rfl) (fun {p e s m args below meth c A Q} hQ => ?_)
  refine ii_aload_n 0 dX12_findMen_0 rfl ?_
  refine ii_get (C := RX12) (T := TX12) (N := 25) (ci := 12) izX12 0 rfl rfl 0 (by decide) kX12_7 rfl dX12_findMen_1 ?_
  refine ii_bipush dX12_findMen_4 kb9 ?_
  refine ii_iald h 3 0 rfl rfl dX12_findMen_6 (fun t_1 h => ?_)
  refine ii_istore_n (lv' := [(1, .int t_1), (0, .ref a_this)]) dX12_findMen_7 rfl (by decide) rfl ?_
  refine ii_iload_n 0 dX12_findMen_8 rfl ?_
  refine ii_jn h (fun j_2 => [(a_this, .inr (12, [.ref a_this_st, .ref a_this_images, .ref a_this_isKept, .long v_this_above, .long v_this_below, .int v_this_steps, .ref a_this_step, .ref a_this_with, .int v_this_waiting, .ref a_this_waits, .ref a_this_value, .ref a_this_given, .ref a_this_net, .ref a_this_together, .ref a_this_most, .ref a_this_owes, .ref a_this_can, .ref a_this_row, .ref a_this_before, .ref a_this_to, .ref a_this_on, .ref a_this_load, .ref a_this_lead, .ref a_this_bestLead, .ref a_this_silver])), (a_this_bestLead, .inl (cI, 10, .inl v_this_bestLead)), (a_this_lead, .inl (cI, 10, .inl v_this_lead)), (a_this_st, .inl (cI, 1951, .inl v_this_st))]) (fun j_2 => [(0, .ref a_this), (1, .int t_1)]) 17 (fun j_2 => [.int j_2]) (fun j_2 h => ?_) (fun j_2 h hjj_2 => ?_)
  · skip
    refine ii_istore_n (lv' := [(2, .int j_2), (0, .ref a_this), (1, .int t_1)]) dX12_findMen_17 rfl (by decide) rfl ?_
    refine ii_iload_n 2 dX12_findMen_18 rfl ?_
    refine ii_jn h (fun j_3 => [(a_this, .inr (12, [.ref a_this_st, .ref a_this_images, .ref a_this_isKept, .long v_this_above, .long v_this_below, .int v_this_steps, .ref a_this_step, .ref a_this_with, .int v_this_waiting, .ref a_this_waits, .ref a_this_value, .ref a_this_given, .ref a_this_net, .ref a_this_together, .ref a_this_most, .ref a_this_owes, .ref a_this_can, .ref a_this_row, .ref a_this_before, .ref a_this_to, .ref a_this_on, .ref a_this_load, .ref a_this_lead, .ref a_this_bestLead, .ref a_this_silver])), (a_this_bestLead, .inl (cI, 10, .inl v_this_bestLead)), (a_this_lead, .inl (cI, 10, .inl v_this_lead)), (a_this_st, .inl (cI, 1951, .inl v_this_st))]) (fun j_3 => [(0, .ref a_this), (1, .int t_1), (2, .int j_2)]) 27 (fun j_3 => [.int j_3]) (fun j_3 h => ?_) (fun j_3 h hjj_3 => ?_)
    · skip
      refine ii_istore_n (lv' := [(3, .int j_3), (0, .ref a_this), (1, .int t_1), (2, .int j_2)]) dX12_findMen_27 rfl (by decide) rfl ?_
      refine ii_aload_n 1 dX12_findMen_28 rfl ?_
      refine ii_get (C := RX12) (T := TX12) (N := 25) (ci := 12) izX12 0 rfl rfl 22 (by decide) kX12_66 rfl dX12_findMen_29 ?_
      refine ii_iconst dX12_findMen_32 kc0 ?_
      refine ii_iconst dX12_findMen_33 kcm1 ?_
      refine ii_iast (fun g_4 => [(a_this, .inr (12, [.ref a_this_st, .ref a_this_images, .ref a_this_isKept, .long v_this_above, .long v_this_below, .int v_this_steps, .ref a_this_step, .ref a_this_with, .int v_this_waiting, .ref a_this_waits, .ref a_this_value, .ref a_this_given, .ref a_this_net, .ref a_this_together, .ref a_this_most, .ref a_this_owes, .ref a_this_can, .ref a_this_row, .ref a_this_before, .ref a_this_to, .ref a_this_on, .ref a_this_load, .ref a_this_lead, .ref a_this_bestLead, .ref a_this_silver])), (a_this_bestLead, .inl (cI, 10, .inl v_this_bestLead)), (a_this_lead, .inl (cI, 10, .inl g_4)), (a_this_st, .inl (cI, 1951, .inl v_this_st))]) h 2 0 rfl rfl dX12_findMen_34 (fun _ => rfl) (fun g_4 h => ?_)
      refine ii_lv [1, 2, 3, 0] rfl ?_
      obtain ⟨x_6, hl_5, h⟩ := bnd h
      refine ii_loopX (fun s_5 => [(a_this, .inr (12, [.ref a_this_st, .ref a_this_images, .ref a_this_isKept, .long v_this_above, .long v_this_below, .int v_this_steps, .ref a_this_step, .ref a_this_with, .int v_this_waiting, .ref a_this_waits, .ref a_this_value, .ref a_this_given, .ref a_this_net, .ref a_this_together, .ref a_this_most, .ref a_this_owes, .ref a_this_can, .ref a_this_row, .ref a_this_before, .ref a_this_to, .ref a_this_on, .ref a_this_load, .ref a_this_lead, .ref a_this_bestLead, .ref a_this_silver])), (a_this_bestLead, .inl (cI, 10, .inl s_5.2.2.1)), (a_this_lead, .inl (cI, 10, .inl s_5.2.2.2)), (a_this_st, .inl (cI, 1951, .inl v_this_st))]) (fun s_5 => [(0, .ref a_this), (1, .int t_1), (2, .int s_5.1), (3, .int s_5.2.1)]) (fun x_6 => [(a_this, .inr (12, [.ref a_this_st, .ref a_this_images, .ref a_this_isKept, .long v_this_above, .long v_this_below, .int v_this_steps, .ref a_this_step, .ref a_this_with, .int v_this_waiting, .ref a_this_waits, .ref a_this_value, .ref a_this_given, .ref a_this_net, .ref a_this_together, .ref a_this_most, .ref a_this_owes, .ref a_this_can, .ref a_this_row, .ref a_this_before, .ref a_this_to, .ref a_this_on, .ref a_this_load, .ref a_this_lead, .ref a_this_bestLead, .ref a_this_silver])), (a_this_bestLead, .inl (cI, 10, .inl x_6.2.2.1)), (a_this_lead, .inl (cI, 10, .inl x_6.2.2.2)), (a_this_st, .inl (cI, 1951, .inl v_this_st))]) (fun x_6 => [(2, .int x_6.1)]) 179 hl_5 rfl rfl ?_ (fun s_5 o h hb_5 hr_5 hx_5 => ?_)
      · skip
        refine ii_iload_n 0 dX12_findMen_179 rfl ?_
        cases h
        exact hQ _ _ dX12_findMen_180
      · skip
        refine ii_iload_n 3 dX12_findMen_35 rfl ?_
        refine ii_if_lt (tgt := 179) h dX12_findMen_36 (by decide) (fun h => ?_) (fun h => ?_)
        · skip
          refine ii_lv [2] rfl ?_
          cases h
          exact hx_5 (s_5.1, s_5.2.1, s_5.2.2.1, s_5.2.2.2) (hr_5 _ rfl)
        · skip
          refine ii_aload_n 0 dX12_findMen_39 rfl ?_
          refine ii_get (C := RX12) (T := TX12) (N := 25) (ci := 12) izX12 0 rfl rfl 22 (by decide) kX12_66 rfl dX12_findMen_40 ?_
          refine ii_iload_n 3 dX12_findMen_43 rfl ?_
          refine ii_dup2 dX12_findMen_44 rfl rfl ?_
          refine ii_iald h 2 0 rfl rfl dX12_findMen_45 (fun t_7 h => ?_)
          refine ii_iconst dX12_findMen_46 kc1 ?_
          refine ii_iadd dX12_findMen_47 ?_
          refine ii_iast (fun g_8 => [(a_this, .inr (12, [.ref a_this_st, .ref a_this_images, .ref a_this_isKept, .long v_this_above, .long v_this_below, .int v_this_steps, .ref a_this_step, .ref a_this_with, .int v_this_waiting, .ref a_this_waits, .ref a_this_value, .ref a_this_given, .ref a_this_net, .ref a_this_together, .ref a_this_most, .ref a_this_owes, .ref a_this_can, .ref a_this_row, .ref a_this_before, .ref a_this_to, .ref a_this_on, .ref a_this_load, .ref a_this_lead, .ref a_this_bestLead, .ref a_this_silver])), (a_this_bestLead, .inl (cI, 10, .inl s_5.2.2.1)), (a_this_lead, .inl (cI, 10, .inl g_8)), (a_this_st, .inl (cI, 1951, .inl v_this_st))]) h 2 0 rfl rfl dX12_findMen_48 (fun _ => rfl) (fun g_8 h => ?_)
          refine ii_aload_n 0 dX12_findMen_49 rfl ?_
          refine ii_get (C := RX12) (T := TX12) (N := 25) (ci := 12) izX12 0 rfl rfl 22 (by decide) kX12_66 rfl dX12_findMen_50 ?_
          refine ii_iload_n 3 dX12_findMen_53 rfl ?_
          refine ii_iald h 2 0 rfl rfl dX12_findMen_54 (fun t_9 h => ?_)
          refine ii_iload_n 3 dX12_findMen_55 rfl ?_
          refine ii_icmp_le (tgt := 65) h dX12_findMen_56 (by decide) (fun h => ?_) (fun h => ?_)
          · skip
            refine ii_aload_n 0 dX12_findMen_65 rfl ?_
            refine ii_iload_n 3 dX12_findMen_66 rfl ?_
            obtain ⟨c_10, hc_10, h⟩ := bnd h
            refine ii_callVi (As := [.int s_5.2.1]) (ws' := [(a_this, .inr (12, [.ref a_this_st, .ref a_this_images, .ref a_this_isKept, .long v_this_above, .long v_this_below, .int v_this_steps, .ref a_this_step, .ref a_this_with, .int v_this_waiting, .ref a_this_waits, .ref a_this_value, .ref a_this_given, .ref a_this_net, .ref a_this_together, .ref a_this_most, .ref a_this_owes, .ref a_this_can, .ref a_this_row, .ref a_this_before, .ref a_this_to, .ref a_this_on, .ref a_this_load, .ref a_this_lead, .ref a_this_bestLead, .ref a_this_silver])), (a_this_bestLead, .inl (cI, 10, .inl s_5.2.2.1)), (a_this_lead, .inl (cI, 10, .inl g_8)), (a_this_st, .inl (cI, 1951, .inl v_this_st))]) (st := []) (c_X12_mayFollow l D cI cJ cZ cH a_this a_this_before a_this_bestLead a_this_can a_this_given a_this_images a_this_isKept a_this_lead a_this_load a_this_most a_this_net a_this_on a_this_owes a_this_row a_this_silver a_this_st a_this_step a_this_to a_this_together a_this_value a_this_waits a_this_with v_this_above v_this_below g_8 v_this_st v_this_steps v_this_waiting s_5.2.1 hc_10) gzX12_285 rfl rfl rfl eV_X12_mayFollow ⟨Nat.le_of_ble_eq_true rfl, Nat.le_of_ble_eq_true rfl⟩ rfl 0 rfl rfl [0, 2, 3] rfl rfl rfl rfl rfl (Nat.le_of_ble_eq_true rfl) (Nat.le_refl _) (Nat.le_refl _) rfl dX12_findMen_67 ?_
            refine ii_if_eq (tgt := 35) h dX12_findMen_70 (by decide) (fun h => ?_) (fun h => ?_)
            · skip
              cases h
              exact hb_5 (s_5.1, s_5.2.1, s_5.2.2.1, g_8) rfl
            · skip
              refine ii_iload_n 3 dX12_findMen_73 rfl ?_
              refine ii_iconst dX12_findMen_74 kc1 ?_
              refine ii_iadd dX12_findMen_75 ?_
              refine ii_iload_n 1 dX12_findMen_76 rfl ?_
              refine ii_icmp_ge (tgt := 93) h dX12_findMen_77 (by decide) (fun h => ?_) (fun h => ?_)
              · skip
                refine ii_iconst dX12_findMen_93 kc0 ?_
                refine ii_istore (lv' := [(4, .int (0 : Int32)), (0, .ref a_this), (1, .int t_1), (2, .int s_5.1), (3, .int s_5.2.1)]) dX12_findMen_94 (by decide) rfl ?_
                refine ii_iconst dX12_findMen_96 kc0 ?_
                refine ii_istore (lv' := [(5, .int (0 : Int32)), (4, .int (0 : Int32)), (0, .ref a_this), (1, .int t_1), (2, .int s_5.1), (3, .int s_5.2.1)]) dX12_findMen_97 (by decide) rfl ?_
                refine ii_lv [2, 3, 4, 5, 1, 0] rfl ?_
                obtain ⟨x_12, hl_11, h⟩ := bnd h
                refine ii_loopX (fun s_11 => [(a_this, .inr (12, [.ref a_this_st, .ref a_this_images, .ref a_this_isKept, .long v_this_above, .long v_this_below, .int v_this_steps, .ref a_this_step, .ref a_this_with, .int v_this_waiting, .ref a_this_waits, .ref a_this_value, .ref a_this_given, .ref a_this_net, .ref a_this_together, .ref a_this_most, .ref a_this_owes, .ref a_this_can, .ref a_this_row, .ref a_this_before, .ref a_this_to, .ref a_this_on, .ref a_this_load, .ref a_this_lead, .ref a_this_bestLead, .ref a_this_silver])), (a_this_bestLead, .inl (cI, 10, .inl s_5.2.2.1)), (a_this_lead, .inl (cI, 10, .inl g_8)), (a_this_st, .inl (cI, 1951, .inl v_this_st))]) (fun s_11 => [(0, .ref a_this), (1, .int t_1), (2, .int s_5.1), (3, .int s_5.2.1), (4, .int s_11.1), (5, .int s_11.2)]) (fun x_12 => [(a_this, .inr (12, [.ref a_this_st, .ref a_this_images, .ref a_this_isKept, .long v_this_above, .long v_this_below, .int v_this_steps, .ref a_this_step, .ref a_this_with, .int v_this_waiting, .ref a_this_waits, .ref a_this_value, .ref a_this_given, .ref a_this_net, .ref a_this_together, .ref a_this_most, .ref a_this_owes, .ref a_this_can, .ref a_this_row, .ref a_this_before, .ref a_this_to, .ref a_this_on, .ref a_this_load, .ref a_this_lead, .ref a_this_bestLead, .ref a_this_silver])), (a_this_bestLead, .inl (cI, 10, .inl s_5.2.2.1)), (a_this_lead, .inl (cI, 10, .inl g_8)), (a_this_st, .inl (cI, 1951, .inl v_this_st))]) (fun x_12 => [(0, .ref a_this), (1, .int t_1), (2, .int s_5.1), (3, .int s_5.2.1), (4, .int x_12.1)]) 133 hl_11 rfl rfl ?_ (fun s_11 o h hb_11 hr_11 hx_11 => ?_)
                · skip
                  refine ii_iload_n 2 dX12_findMen_133 rfl ?_
                  refine ii_iconst dX12_findMen_134 kcm1 ?_
                  refine ii_jn h (fun j_17 => [(a_this, .inr (12, [.ref a_this_st, .ref a_this_images, .ref a_this_isKept, .long v_this_above, .long v_this_below, .int v_this_steps, .ref a_this_step, .ref a_this_with, .int v_this_waiting, .ref a_this_waits, .ref a_this_value, .ref a_this_given, .ref a_this_net, .ref a_this_together, .ref a_this_most, .ref a_this_owes, .ref a_this_can, .ref a_this_row, .ref a_this_before, .ref a_this_to, .ref a_this_on, .ref a_this_load, .ref a_this_lead, .ref a_this_bestLead, .ref a_this_silver])), (a_this_bestLead, .inl (cI, 10, .inl j_17.2)), (a_this_lead, .inl (cI, 10, .inl g_8)), (a_this_st, .inl (cI, 1951, .inl v_this_st))]) (fun j_17 => [(0, .ref a_this), (1, .int t_1), (2, .int j_17.1), (3, .int s_5.2.1)]) 176 (fun j_17 => []) (fun j_17 h => ?_) (fun j_17 h hjj_17 => ?_)
                  · skip
                    refine ii_goto (tgt := 35) dX12_findMen_176 (by decide) ?_
                    cases h
                    exact hb_5 (j_17.1, s_5.2.1, j_17.2, g_8) rfl
                  · skip
                    refine ii_jf (r := j_17) (J_X12_findMen_4_144 t_1 g_8 s_5 x_12) (fun v_18 => [(a_this, .inr (12, [.ref a_this_st, .ref a_this_images, .ref a_this_isKept, .long v_this_above, .long v_this_below, .int v_this_steps, .ref a_this_step, .ref a_this_with, .int v_this_waiting, .ref a_this_waits, .ref a_this_value, .ref a_this_given, .ref a_this_net, .ref a_this_together, .ref a_this_most, .ref a_this_owes, .ref a_this_can, .ref a_this_row, .ref a_this_before, .ref a_this_to, .ref a_this_on, .ref a_this_load, .ref a_this_lead, .ref a_this_bestLead, .ref a_this_silver])), (a_this_bestLead, .inl (cI, 10, .inl s_5.2.2.1)), (a_this_lead, .inl (cI, 10, .inl g_8)), (a_this_st, .inl (cI, 1951, .inl v_this_st))]) (fun v_18 => [(0, .ref a_this), (1, .int t_1), (3, .int s_5.2.1), (4, .int x_12.1)]) 144 (fun v_18 => []) (fun v_18 h => ?_) (fun hjv_18 => ?_)
                    · skip
                      refine ii_iload 3 dX12_findMen_144 rfl ?_
                      refine ii_istore_n (lv' := [(2, .int x_12.1), (0, .ref a_this), (1, .int t_1), (3, .int s_5.2.1), (4, .int x_12.1)]) dX12_findMen_146 rfl (by decide) rfl ?_
                      refine ii_iconst dX12_findMen_147 kc0 ?_
                      refine ii_istore (lv' := [(5, .int (0 : Int32)), (2, .int x_12.1), (0, .ref a_this), (1, .int t_1), (3, .int s_5.2.1), (4, .int x_12.1)]) dX12_findMen_148 (by decide) rfl ?_
                      refine ii_lv [2, 3, 1, 4, 0] rfl ?_
                      obtain ⟨x_20, hl_19, h⟩ := bnd h
                      refine ii_loopX (fun s_19 => [(a_this, .inr (12, [.ref a_this_st, .ref a_this_images, .ref a_this_isKept, .long v_this_above, .long v_this_below, .int v_this_steps, .ref a_this_step, .ref a_this_with, .int v_this_waiting, .ref a_this_waits, .ref a_this_value, .ref a_this_given, .ref a_this_net, .ref a_this_together, .ref a_this_most, .ref a_this_owes, .ref a_this_can, .ref a_this_row, .ref a_this_before, .ref a_this_to, .ref a_this_on, .ref a_this_load, .ref a_this_lead, .ref a_this_bestLead, .ref a_this_silver])), (a_this_bestLead, .inl (cI, 10, .inl s_19.2)), (a_this_lead, .inl (cI, 10, .inl g_8)), (a_this_st, .inl (cI, 1951, .inl v_this_st))]) (fun s_19 => [(0, .ref a_this), (1, .int t_1), (2, .int x_12.1), (3, .int s_5.2.1), (5, .int s_19.1)]) (fun x_20 => [(a_this, .inr (12, [.ref a_this_st, .ref a_this_images, .ref a_this_isKept, .long v_this_above, .long v_this_below, .int v_this_steps, .ref a_this_step, .ref a_this_with, .int v_this_waiting, .ref a_this_waits, .ref a_this_value, .ref a_this_given, .ref a_this_net, .ref a_this_together, .ref a_this_most, .ref a_this_owes, .ref a_this_can, .ref a_this_row, .ref a_this_before, .ref a_this_to, .ref a_this_on, .ref a_this_load, .ref a_this_lead, .ref a_this_bestLead, .ref a_this_silver])), (a_this_bestLead, .inl (cI, 10, .inl x_20.2)), (a_this_lead, .inl (cI, 10, .inl g_8)), (a_this_st, .inl (cI, 1951, .inl v_this_st))]) (fun x_20 => [(0, .ref a_this), (1, .int t_1), (2, .int x_12.1), (3, .int s_5.2.1)]) 176 hl_19 rfl rfl ?_ (fun s_19 o h hb_19 hr_19 hx_19 => ?_)
                      · skip
                        cases h
                        exact hjj_17
                      · skip
                        refine ii_iload 4 dX12_findMen_150 rfl ?_
                        refine ii_iload_n 1 dX12_findMen_152 rfl ?_
                        refine ii_icmp_ge (tgt := 176) h dX12_findMen_153 (by decide) (fun h => ?_) (fun h => ?_)
                        · skip
                          refine ii_lv [0, 1, 2, 3] rfl ?_
                          cases h
                          exact hx_19 (s_19.1, s_19.2) (hr_19 _ rfl)
                        · skip
                          refine ii_aload_n 0 dX12_findMen_156 rfl ?_
                          refine ii_get (C := RX12) (T := TX12) (N := 25) (ci := 12) izX12 0 rfl rfl 23 (by decide) kX12_69 rfl dX12_findMen_157 ?_
                          refine ii_iload 4 dX12_findMen_160 rfl ?_
                          refine ii_aload_n 0 dX12_findMen_162 rfl ?_
                          refine ii_get (C := RX12) (T := TX12) (N := 25) (ci := 12) izX12 0 rfl rfl 22 (by decide) kX12_66 rfl dX12_findMen_163 ?_
                          refine ii_iload 4 dX12_findMen_166 rfl ?_
                          refine ii_iald h 2 0 rfl rfl dX12_findMen_168 (fun t_21 h => ?_)
                          refine ii_iast (fun g_22 => [(a_this, .inr (12, [.ref a_this_st, .ref a_this_images, .ref a_this_isKept, .long v_this_above, .long v_this_below, .int v_this_steps, .ref a_this_step, .ref a_this_with, .int v_this_waiting, .ref a_this_waits, .ref a_this_value, .ref a_this_given, .ref a_this_net, .ref a_this_together, .ref a_this_most, .ref a_this_owes, .ref a_this_can, .ref a_this_row, .ref a_this_before, .ref a_this_to, .ref a_this_on, .ref a_this_load, .ref a_this_lead, .ref a_this_bestLead, .ref a_this_silver])), (a_this_bestLead, .inl (cI, 10, .inl g_22)), (a_this_lead, .inl (cI, 10, .inl g_8)), (a_this_st, .inl (cI, 1951, .inl v_this_st))]) h 1 0 rfl rfl dX12_findMen_169 (fun _ => rfl) (fun g_22 h => ?_)
                          refine ii_iinc (fun x_23 => [(5, .int x_23), (0, .ref a_this), (1, .int t_1), (2, .int x_12.1), (3, .int s_5.2.1)]) h 4 dX12_findMen_170 rfl kc1 (by decide) (fun _ => rfl) (fun x_23 h => ?_)
                          refine ii_goto (tgt := 150) dX12_findMen_173 (by decide) ?_
                          refine ii_lv [1, 2, 3, 4, 0] rfl ?_
                          cases h
                          exact hb_19 (x_23, g_22) rfl
                    · skip
                      refine ii_icmp_eq (tgt := 144) h dX12_findMen_135 (by decide) (fun h => ?_) (fun h => ?_)
                      · skip
                        refine ii_lv [0, 1, 3, 4] rfl ?_
                        exact hjv_18 () h
                      · skip
                        refine ii_iload 4 dX12_findMen_138 rfl ?_
                        refine ii_iload_n 2 dX12_findMen_140 rfl ?_
                        refine ii_icmp_ge (tgt := 176) h dX12_findMen_141 (by decide) (fun h => ?_) (fun h => ?_)
                        · skip
                          refine ii_lv [0, 1, 2, 3] rfl ?_
                          cases h
                          exact hjj_17
                        · skip
                          refine ii_lv [0, 1, 3, 4] rfl ?_
                          exact hjv_18 () h
                · skip
                  refine ii_iload 5 dX12_findMen_99 rfl ?_
                  refine ii_iload_n 1 dX12_findMen_101 rfl ?_
                  refine ii_icmp_ge (tgt := 133) h dX12_findMen_102 (by decide) (fun h => ?_) (fun h => ?_)
                  · skip
                    refine ii_lv [0, 1, 2, 3, 4] rfl ?_
                    cases h
                    exact hx_11 (s_11.1, s_11.2) (hr_11 _ rfl)
                  · skip
                    refine ii_iload 4 dX12_findMen_105 rfl ?_
                    refine ii_aload_n 0 dX12_findMen_107 rfl ?_
                    refine ii_get (C := RX12) (T := TX12) (N := 25) (ci := 12) izX12 0 rfl rfl 22 (by decide) kX12_66 rfl dX12_findMen_108 ?_
                    refine ii_iload 5 dX12_findMen_111 rfl ?_
                    refine ii_iald h 2 0 rfl rfl dX12_findMen_113 (fun t_13 h => ?_)
                    refine ii_iload 5 dX12_findMen_114 rfl ?_
                    refine ii_jn h (fun j_14 => [(a_this, .inr (12, [.ref a_this_st, .ref a_this_images, .ref a_this_isKept, .long v_this_above, .long v_this_below, .int v_this_steps, .ref a_this_step, .ref a_this_with, .int v_this_waiting, .ref a_this_waits, .ref a_this_value, .ref a_this_given, .ref a_this_net, .ref a_this_together, .ref a_this_most, .ref a_this_owes, .ref a_this_can, .ref a_this_row, .ref a_this_before, .ref a_this_to, .ref a_this_on, .ref a_this_load, .ref a_this_lead, .ref a_this_bestLead, .ref a_this_silver])), (a_this_bestLead, .inl (cI, 10, .inl s_5.2.2.1)), (a_this_lead, .inl (cI, 10, .inl g_8)), (a_this_st, .inl (cI, 1951, .inl v_this_st))]) (fun j_14 => [(0, .ref a_this), (1, .int t_1), (2, .int s_5.1), (3, .int s_5.2.1), (5, .int s_11.2)]) 124 (fun j_14 => [.int j_14, .int s_11.1]) (fun j_14 h => ?_) (fun j_14 h hjj_14 => ?_)
                    · skip
                      refine ii_iadd dX12_findMen_124 ?_
                      refine ii_topI h (fun x_15 h => ?_)
                      refine ii_istore (lv' := [(4, .int x_15), (0, .ref a_this), (1, .int t_1), (2, .int s_5.1), (3, .int s_5.2.1), (5, .int s_11.2)]) dX12_findMen_125 (by decide) rfl ?_
                      refine ii_iinc (fun x_16 => [(5, .int x_16), (4, .int x_15), (0, .ref a_this), (1, .int t_1), (2, .int s_5.1), (3, .int s_5.2.1)]) h 5 dX12_findMen_127 rfl kc1 (by decide) (fun _ => rfl) (fun x_16 h => ?_)
                      refine ii_goto (tgt := 99) dX12_findMen_130 (by decide) ?_
                      refine ii_lv [2, 3, 4, 5, 1, 0] rfl ?_
                      cases h
                      exact hb_11 (x_15, x_16) rfl
                    · skip
                      refine ii_icmp_ne (tgt := 123) h dX12_findMen_116 (by decide) (fun h => ?_) (fun h => ?_)
                      · skip
                        refine ii_iconst dX12_findMen_123 kc0 ?_
                        refine ii_lv [0, 1, 2, 3, 5] rfl ?_
                        cases h
                        exact hjj_14
                      · skip
                        refine ii_iconst dX12_findMen_119 kc1 ?_
                        refine ii_goto (tgt := 124) dX12_findMen_120 (by decide) ?_
                        refine ii_lv [0, 1, 2, 3, 5] rfl ?_
                        cases h
                        exact hjj_14
              · skip
                refine ii_iinc (fun x_24 => [(3, .int x_24), (0, .ref a_this), (1, .int t_1), (2, .int s_5.1)]) h 3 dX12_findMen_80 rfl kc1 (by decide) (fun _ => rfl) (fun x_24 h => ?_)
                refine ii_aload_n 1 dX12_findMen_83 rfl ?_
                refine ii_get (C := RX12) (T := TX12) (N := 25) (ci := 12) izX12 0 rfl rfl 22 (by decide) kX12_66 rfl dX12_findMen_84 ?_
                refine ii_iload_n 0 dX12_findMen_87 rfl ?_
                refine ii_iconst dX12_findMen_88 kcm1 ?_
                refine ii_iast (fun g_25 => [(a_this, .inr (12, [.ref a_this_st, .ref a_this_images, .ref a_this_isKept, .long v_this_above, .long v_this_below, .int v_this_steps, .ref a_this_step, .ref a_this_with, .int v_this_waiting, .ref a_this_waits, .ref a_this_value, .ref a_this_given, .ref a_this_net, .ref a_this_together, .ref a_this_most, .ref a_this_owes, .ref a_this_can, .ref a_this_row, .ref a_this_before, .ref a_this_to, .ref a_this_on, .ref a_this_load, .ref a_this_lead, .ref a_this_bestLead, .ref a_this_silver])), (a_this_bestLead, .inl (cI, 10, .inl s_5.2.2.1)), (a_this_lead, .inl (cI, 10, .inl g_25)), (a_this_st, .inl (cI, 1951, .inl v_this_st))]) h 2 0 rfl rfl dX12_findMen_89 (fun _ => rfl) (fun g_25 h => ?_)
                refine ii_goto (tgt := 35) dX12_findMen_90 (by decide) ?_
                refine ii_lv [1, 2, 3, 0] rfl ?_
                cases h
                exact hb_5 (s_5.1, x_24, s_5.2.2.1, g_25) rfl
          · skip
            refine ii_iinc (fun x_26 => [(3, .int x_26), (0, .ref a_this), (1, .int t_1), (2, .int s_5.1)]) h 3 dX12_findMen_59 rfl kcm1 (by decide) (fun _ => rfl) (fun x_26 h => ?_)
            refine ii_goto (tgt := 35) dX12_findMen_62 (by decide) ?_
            refine ii_lv [1, 2, 3, 0] rfl ?_
            cases h
            exact hb_5 (s_5.1, x_26, s_5.2.2.1, g_8) rfl
    · skip
      refine ii_if_ne (tgt := 26) h dX12_findMen_19 (by decide) (fun h => ?_) (fun h => ?_)
      · skip
        refine ii_iconst dX12_findMen_26 kc0 ?_
        refine ii_lv [1, 2, 0] rfl ?_
        cases h
        exact hjj_3
      · skip
        refine ii_iconst dX12_findMen_22 kcm1 ?_
        refine ii_goto (tgt := 27) dX12_findMen_23 (by decide) ?_
        refine ii_lv [1, 2, 0] rfl ?_
        cases h
        exact hjj_3
  · skip
    refine ii_if_ne (tgt := 16) h dX12_findMen_9 (by decide) (fun h => ?_) (fun h => ?_)
    · skip
      refine ii_iconst dX12_findMen_16 kcm1 ?_
      refine ii_lv [1, 0] rfl ?_
      cases h
      exact hjj_2
    · skip
      refine ii_iconst dX12_findMen_12 kc0 ?_
      refine ii_goto (tgt := 17) dX12_findMen_13 (by decide) ?_
      refine ii_lv [1, 0] rfl ?_
      cases h
      exact hjj_2
set_option maxHeartbeats 4000000 in
set_option maxRecDepth 100000 in
theorem c_X12_men (l : Launch) (D : va_G) (cI cJ cZ cH : ClassId) (a_this a_this_before a_this_bestLead a_this_can a_this_given a_this_images a_this_isKept a_this_lead a_this_load a_this_most a_this_net a_this_on a_this_owes a_this_row a_this_silver a_this_st a_this_step a_this_to a_this_together a_this_value a_this_waits a_this_with : Nat) (v_this_above : Int64) (v_this_below : Int64) (v_this_bestLead : Nat → Int32) (v_this_lead : Nat → Int32) (v_this_st : Nat → Int32) (v_this_steps : Int32) (v_this_waiting : Int32) (p0 : Int32) {res : Int32 × (Nat → Int32) × (Nat → Int32)} (h : F_X12_men v_this_bestLead v_this_lead v_this_st p0 = some res) : CTi l yX12_men wzX12_men { frames := 4, cells := 0, slots := 0, locals := 98 } D [(cI, .int), (cJ, .long), (cZ, .boolean), (cH, .object "TinHouse$House")] [.ref a_this, .int p0] [(a_this, .inr (12, [.ref a_this_st, .ref a_this_images, .ref a_this_isKept, .long v_this_above, .long v_this_below, .int v_this_steps, .ref a_this_step, .ref a_this_with, .int v_this_waiting, .ref a_this_waits, .ref a_this_value, .ref a_this_given, .ref a_this_net, .ref a_this_together, .ref a_this_most, .ref a_this_owes, .ref a_this_can, .ref a_this_row, .ref a_this_before, .ref a_this_to, .ref a_this_on, .ref a_this_load, .ref a_this_lead, .ref a_this_bestLead, .ref a_this_silver])), (a_this_bestLead, .inl (cI, 10, .inl v_this_bestLead)), (a_this_lead, .inl (cI, 10, .inl v_this_lead)), (a_this_st, .inl (cI, 1951, .inl v_this_st))] res.1 [(a_this, .inr (12, [.ref a_this_st, .ref a_this_images, .ref a_this_isKept, .long v_this_above, .long v_this_below, .int v_this_steps, .ref a_this_step, .ref a_this_with, .int v_this_waiting, .ref a_this_waits, .ref a_this_value, .ref a_this_given, .ref a_this_net, .ref a_this_together, .ref a_this_most, .ref a_this_owes, .ref a_this_can, .ref a_this_row, .ref a_this_before, .ref a_this_to, .ref a_this_on, .ref a_this_load, .ref a_this_lead, .ref a_this_bestLead, .ref a_this_silver])), (a_this_bestLead, .inl (cI, 10, .inl res.2.1)), (a_this_lead, .inl (cI, 10, .inl res.2.2)), (a_this_st, .inl (cI, 1951, .inl v_this_st))] := by
  unfold F_X12_men at h
  refine ii_metI (own := RX12) (lv0 := [(0, .ref a_this), (1, .int p0)]) (by decide) rfl rfl rfl (Nat.le_of_ble_eq_true rfl) (fun {p e s m args below meth c A Q} hQ => ?_)
  refine ii_iload_n 1 dX12_men_0 rfl ?_
  refine ii_iconst dX12_men_1 kcm1 ?_
  refine ii_jf (r := res) (J_X12_men_1_18 v_this_bestLead v_this_lead v_this_st p0) (fun v_1 => [(a_this, .inr (12, [.ref a_this_st, .ref a_this_images, .ref a_this_isKept, .long v_this_above, .long v_this_below, .int v_this_steps, .ref a_this_step, .ref a_this_with, .int v_this_waiting, .ref a_this_waits, .ref a_this_value, .ref a_this_given, .ref a_this_net, .ref a_this_together, .ref a_this_most, .ref a_this_owes, .ref a_this_can, .ref a_this_row, .ref a_this_before, .ref a_this_to, .ref a_this_on, .ref a_this_load, .ref a_this_lead, .ref a_this_bestLead, .ref a_this_silver])), (a_this_bestLead, .inl (cI, 10, .inl v_this_bestLead)), (a_this_lead, .inl (cI, 10, .inl v_this_lead)), (a_this_st, .inl (cI, 1951, .inl v_this_st))]) (fun v_1 => [(0, .ref a_this), (1, .int p0)]) 18 (fun v_1 => []) (fun v_1 h => ?_) (fun hjv_1 => ?_)
  · skip
    refine ii_aload_n 0 dX12_men_18 rfl ?_
    obtain ⟨c_2, hc_2, h⟩ := bnd h
    refine ii_callVi (As := []) (ws' := [(a_this, .inr (12, [.ref a_this_st, .ref a_this_images, .ref a_this_isKept, .long v_this_above, .long v_this_below, .int v_this_steps, .ref a_this_step, .ref a_this_with, .int v_this_waiting, .ref a_this_waits, .ref a_this_value, .ref a_this_given, .ref a_this_net, .ref a_this_together, .ref a_this_most, .ref a_this_owes, .ref a_this_can, .ref a_this_row, .ref a_this_before, .ref a_this_to, .ref a_this_on, .ref a_this_load, .ref a_this_lead, .ref a_this_bestLead, .ref a_this_silver])), (a_this_bestLead, .inl (cI, 10, .inl c_2.2.1)), (a_this_lead, .inl (cI, 10, .inl c_2.2.2)), (a_this_st, .inl (cI, 1951, .inl v_this_st))]) (st := []) (c_X12_findMen l D cI cJ cZ cH a_this a_this_before a_this_bestLead a_this_can a_this_given a_this_images a_this_isKept a_this_lead a_this_load a_this_most a_this_net a_this_on a_this_owes a_this_row a_this_silver a_this_st a_this_step a_this_to a_this_together a_this_value a_this_waits a_this_with v_this_above v_this_below v_this_bestLead v_this_lead v_this_st v_this_steps v_this_waiting hc_2) gzX12_288 rfl rfl rfl eV_X12_findMen ⟨Nat.le_of_ble_eq_true rfl, Nat.le_of_ble_eq_true rfl⟩ rfl 0 rfl rfl [0, 1, 2, 3] rfl rfl rfl rfl rfl (Nat.le_of_ble_eq_true rfl) (Nat.le_refl _) (Nat.le_refl _) rfl dX12_men_19 ?_
    refine ii_istore_n (lv' := [(2, .int c_2.1), (0, .ref a_this), (1, .int p0)]) dX12_men_22 rfl (by decide) rfl ?_
    refine ii_iload_n 2 dX12_men_23 rfl ?_
    refine ii_iconst dX12_men_24 kcm1 ?_
    refine ii_jn h (fun j_3 => [(a_this, .inr (12, [.ref a_this_st, .ref a_this_images, .ref a_this_isKept, .long v_this_above, .long v_this_below, .int v_this_steps, .ref a_this_step, .ref a_this_with, .int v_this_waiting, .ref a_this_waits, .ref a_this_value, .ref a_this_given, .ref a_this_net, .ref a_this_together, .ref a_this_most, .ref a_this_owes, .ref a_this_can, .ref a_this_row, .ref a_this_before, .ref a_this_to, .ref a_this_on, .ref a_this_load, .ref a_this_lead, .ref a_this_bestLead, .ref a_this_silver])), (a_this_bestLead, .inl (cI, 10, .inl c_2.2.1)), (a_this_lead, .inl (cI, 10, .inl c_2.2.2)), (a_this_st, .inl (cI, 1951, .inl v_this_st))]) (fun j_3 => []) 38 (fun j_3 => [.int j_3]) (fun j_3 h => ?_) (fun j_3 h hjj_3 => ?_)
    · skip
      cases h
      exact hQ _ _ dX12_men_38
    · skip
      refine ii_icmp_ne (tgt := 32) h dX12_men_25 (by decide) (fun h => ?_) (fun h => ?_)
      · skip
        refine ii_aload_n 1 dX12_men_32 rfl ?_
        refine ii_get (C := RX12) (T := TX12) (N := 25) (ci := 12) izX12 0 rfl rfl 23 (by decide) kX12_69 rfl dX12_men_33 ?_
        refine ii_iload_n 2 dX12_men_36 rfl ?_
        refine ii_iald h 1 0 rfl rfl dX12_men_37 (fun t_4 h => ?_)
        refine ii_lv [] rfl ?_
        cases h
        exact hjj_3
      · skip
        refine ii_iload_n 0 dX12_men_28 rfl ?_
        refine ii_goto (tgt := 38) dX12_men_29 (by decide) ?_
        refine ii_lv [] rfl ?_
        cases h
        exact hjj_3
  · skip
    refine ii_icmp_eq (tgt := 18) h dX12_men_2 (by decide) (fun h => ?_) (fun h => ?_)
    · skip
      exact hjv_1 () h
    · skip
      refine ii_aload_n 0 dX12_men_5 rfl ?_
      refine ii_bipush dX12_men_6 kb9 ?_
      refine ii_iload_n 1 dX12_men_8 rfl ?_
      obtain ⟨c_5, hc_5, h⟩ := bnd h
      refine ii_callVi (As := [.int (9 : Int32), .int p0]) (ws' := [(a_this, .inr (12, [.ref a_this_st, .ref a_this_images, .ref a_this_isKept, .long v_this_above, .long v_this_below, .int v_this_steps, .ref a_this_step, .ref a_this_with, .int v_this_waiting, .ref a_this_waits, .ref a_this_value, .ref a_this_given, .ref a_this_net, .ref a_this_together, .ref a_this_most, .ref a_this_owes, .ref a_this_can, .ref a_this_row, .ref a_this_before, .ref a_this_to, .ref a_this_on, .ref a_this_load, .ref a_this_lead, .ref a_this_bestLead, .ref a_this_silver])), (a_this_bestLead, .inl (cI, 10, .inl v_this_bestLead)), (a_this_lead, .inl (cI, 10, .inl v_this_lead)), (a_this_st, .inl (cI, 1951, .inl v_this_st))]) (st := []) (c_X12_is l D cI cJ cZ cH a_this a_this_before a_this_bestLead a_this_can a_this_given a_this_images a_this_isKept a_this_lead a_this_load a_this_most a_this_net a_this_on a_this_owes a_this_row a_this_silver a_this_st a_this_step a_this_to a_this_together a_this_value a_this_waits a_this_with v_this_above v_this_below v_this_st v_this_steps v_this_waiting (9 : Int32) p0 hc_5) gzX12_173 rfl rfl rfl eV_X12_is ⟨Nat.le_of_ble_eq_true rfl, Nat.le_of_ble_eq_true rfl⟩ rfl 0 rfl rfl [0, 3] rfl rfl rfl rfl rfl (Nat.le_of_ble_eq_true rfl) (Nat.le_refl _) (Nat.le_refl _) rfl dX12_men_9 ?_
      refine ii_if_ne (tgt := 18) h dX12_men_12 (by decide) (fun h => ?_) (fun h => ?_)
      · skip
        exact hjv_1 () h
      · skip
        refine ii_bipush dX12_men_15 kbm10 ?_
        cases h
        exact hQ _ _ dX12_men_17
set_option maxHeartbeats 4000000 in
set_option maxRecDepth 100000 in
theorem c_X12_load (l : Launch) (D : va_G) (cI cJ cZ cH : ClassId) (a_this a_this_before a_this_bestLead a_this_can a_this_given a_this_images a_this_isKept a_this_lead a_this_load a_this_most a_this_net a_this_on a_this_owes a_this_row a_this_silver a_this_st a_this_step a_this_to a_this_together a_this_value a_this_waits a_this_with : Nat) (v_this_above : Int64) (v_this_below : Int64) (v_this_st : Nat → Int32) (v_this_steps : Int32) (v_this_waiting : Int32) (p0 : Int32) (p1 : Int32) (p2 : Int32) {res : Int32 × (Nat → Int32)} (h : F_X12_load v_this_st p0 p1 p2 = some res) : CTi l yX12_load wzX12_load { frames := 2, cells := 0, slots := 0, locals := 47 } D [(cI, .int), (cJ, .long), (cZ, .boolean), (cH, .object "TinHouse$House")] [.ref a_this, .int p0, .int p1, .int p2] [(a_this, .inr (12, [.ref a_this_st, .ref a_this_images, .ref a_this_isKept, .long v_this_above, .long v_this_below, .int v_this_steps, .ref a_this_step, .ref a_this_with, .int v_this_waiting, .ref a_this_waits, .ref a_this_value, .ref a_this_given, .ref a_this_net, .ref a_this_together, .ref a_this_most, .ref a_this_owes, .ref a_this_can, .ref a_this_row, .ref a_this_before, .ref a_this_to, .ref a_this_on, .ref a_this_load, .ref a_this_lead, .ref a_this_bestLead, .ref a_this_silver])), (a_this_st, .inl (cI, 1951, .inl v_this_st))] res.1 [(a_this, .inr (12, [.ref a_this_st, .ref a_this_images, .ref a_this_isKept, .long v_this_above, .long v_this_below, .int v_this_steps, .ref a_this_step, .ref a_this_with, .int v_this_waiting, .ref a_this_waits, .ref a_this_value, .ref a_this_given, .ref a_this_net, .ref a_this_together, .ref a_this_most, .ref a_this_owes, .ref a_this_can, .ref a_this_row, .ref a_this_before, .ref a_this_to, .ref a_this_on, .ref a_this_load, .ref a_this_lead, .ref a_this_bestLead, .ref a_this_silver])), (a_this_st, .inl (cI, 1951, .inl res.2))] := by
  unfold F_X12_load at h
  refine ii_metI (own := RX12) (lv0 := [(0, .ref a_this), (1, .int p0), (2, .int p1), (3, .int p2)]) (by decide) rfl rfl rfl (Nat.le_of_ble_eq_true rfl) (fun {p e s m args below meth c A Q} hQ => ?_)
  refine ii_aload_n 0 dX12_load_0 rfl ?_
  refine ii_iconst dX12_load_1 kc0 ?_
  refine ii_iload_n 1 dX12_load_2 rfl ?_
  obtain ⟨c_1, hc_1, h⟩ := bnd h
  refine ii_callVi (As := [.int (0 : Int32), .int p0]) (ws' := [(a_this, .inr (12, [.ref a_this_st, .ref a_this_images, .ref a_this_isKept, .long v_this_above, .long v_this_below, .int v_this_steps, .ref a_this_step, .ref a_this_with, .int v_this_waiting, .ref a_this_waits, .ref a_this_value, .ref a_this_given, .ref a_this_net, .ref a_this_together, .ref a_this_most, .ref a_this_owes, .ref a_this_can, .ref a_this_row, .ref a_this_before, .ref a_this_to, .ref a_this_on, .ref a_this_load, .ref a_this_lead, .ref a_this_bestLead, .ref a_this_silver])), (a_this_st, .inl (cI, 1951, .inl v_this_st))]) (st := []) (c_X12_is l D cI cJ cZ cH a_this a_this_before a_this_bestLead a_this_can a_this_given a_this_images a_this_isKept a_this_lead a_this_load a_this_most a_this_net a_this_on a_this_owes a_this_row a_this_silver a_this_st a_this_step a_this_to a_this_together a_this_value a_this_waits a_this_with v_this_above v_this_below v_this_st v_this_steps v_this_waiting (0 : Int32) p0 hc_1) gzX12_173 rfl rfl rfl eV_X12_is ⟨Nat.le_of_ble_eq_true rfl, Nat.le_of_ble_eq_true rfl⟩ rfl 0 rfl rfl [0, 1] rfl rfl rfl rfl rfl (Nat.le_of_ble_eq_true rfl) (Nat.le_refl _) (Nat.le_refl _) rfl dX12_load_3 ?_
  refine ii_if_eq (tgt := 28) h dX12_load_6 (by decide) (fun h => ?_) (fun h => ?_)
  · skip
    refine ii_bipush dX12_load_28 kbm2 ?_
    cases h
    exact hQ _ _ dX12_load_30
  · skip
    refine ii_iload_n 2 dX12_load_9 rfl ?_
    obtain ⟨c_2, hc_2, h⟩ := bnd h
    refine ii_callSi (As := [.int p1]) (ws' := [(a_this, .inr (12, [.ref a_this_st, .ref a_this_images, .ref a_this_isKept, .long v_this_above, .long v_this_below, .int v_this_steps, .ref a_this_step, .ref a_this_with, .int v_this_waiting, .ref a_this_waits, .ref a_this_value, .ref a_this_given, .ref a_this_net, .ref a_this_together, .ref a_this_most, .ref a_this_owes, .ref a_this_can, .ref a_this_row, .ref a_this_before, .ref a_this_to, .ref a_this_on, .ref a_this_load, .ref a_this_lead, .ref a_this_bestLead, .ref a_this_silver])), (a_this_st, .inl (cI, 1951, .inl v_this_st))]) (st := []) (c_X12_isWeight l D cI cJ cZ cH p1 hc_2) gzX12_216 rfl rfl rfl eS_X12_isWeight ⟨Nat.le_of_ble_eq_true rfl, Nat.le_of_ble_eq_true rfl⟩ rfl [] rfl rfl rfl rfl rfl (Nat.le_of_ble_eq_true rfl) (Nat.le_refl _) (Nat.le_refl _) rfl dX12_load_10 ?_
    refine ii_if_eq (tgt := 28) h dX12_load_13 (by decide) (fun h => ?_) (fun h => ?_)
    · skip
      refine ii_bipush dX12_load_28 kbm2 ?_
      cases h
      exact hQ _ _ dX12_load_30
    · skip
      refine ii_iload_n 3 dX12_load_16 rfl ?_
      refine ii_i2l dX12_load_17 ?_
      refine ii_lconst dX12_load_18 kl0 ?_
      refine ii_ldc2 (v := 1000000) dX12_load_19 kX12_177 ?_
      obtain ⟨c_3, hc_3, h⟩ := bnd h
      refine ii_callSi (As := [.long p2.toInt64, .long (0 : Int64), .long (1000000 : Int64)]) (ws' := [(a_this, .inr (12, [.ref a_this_st, .ref a_this_images, .ref a_this_isKept, .long v_this_above, .long v_this_below, .int v_this_steps, .ref a_this_step, .ref a_this_with, .int v_this_waiting, .ref a_this_waits, .ref a_this_value, .ref a_this_given, .ref a_this_net, .ref a_this_together, .ref a_this_most, .ref a_this_owes, .ref a_this_can, .ref a_this_row, .ref a_this_before, .ref a_this_to, .ref a_this_on, .ref a_this_load, .ref a_this_lead, .ref a_this_bestLead, .ref a_this_silver])), (a_this_st, .inl (cI, 1951, .inl v_this_st))]) (st := []) (c_X12_in l D cI cJ cZ cH p2.toInt64 (0 : Int64) (1000000 : Int64) hc_3) gzX12_79 rfl rfl rfl eS_X12_in ⟨Nat.le_of_ble_eq_true rfl, Nat.le_of_ble_eq_true rfl⟩ rfl [] rfl rfl rfl rfl rfl (Nat.le_of_ble_eq_true rfl) (Nat.le_refl _) (Nat.le_refl _) rfl dX12_load_22 ?_
      refine ii_if_ne (tgt := 31) h dX12_load_25 (by decide) (fun h => ?_) (fun h => ?_)
      · skip
        refine ii_aload_n 0 dX12_load_31 rfl ?_
        refine ii_get (C := RX12) (T := TX12) (N := 25) (ci := 12) izX12 0 rfl rfl 0 (by decide) kX12_7 rfl dX12_load_32 ?_
        refine ii_bipush dX12_load_35 kb10 ?_
        refine ii_iald h 1 0 rfl rfl dX12_load_37 (fun t_4 h => ?_)
        refine ii_bipush dX12_load_38 kb6 ?_
        refine ii_icmp_ne (tgt := 46) h dX12_load_40 (by decide) (fun h => ?_) (fun h => ?_)
        · skip
          refine ii_sipush dX12_load_46 ks1933 ?_
          refine ii_iconst dX12_load_49 kc3 ?_
          refine ii_aload_n 0 dX12_load_50 rfl ?_
          refine ii_get (C := RX12) (T := TX12) (N := 25) (ci := 12) izX12 0 rfl rfl 0 (by decide) kX12_7 rfl dX12_load_51 ?_
          refine ii_bipush dX12_load_54 kb10 ?_
          refine ii_iald h 1 0 rfl rfl dX12_load_56 (fun t_5 h => ?_)
          refine ii_imul dX12_load_57 ?_
          refine ii_iadd dX12_load_58 ?_
          refine ii_topI h (fun x_6 h => ?_)
          refine ii_istore (lv' := [(4, .int x_6), (0, .ref a_this), (1, .int p0), (2, .int p1), (3, .int p2)]) dX12_load_59 (by decide) rfl ?_
          refine ii_aload_n 1 dX12_load_61 rfl ?_
          refine ii_get (C := RX12) (T := TX12) (N := 25) (ci := 12) izX12 0 rfl rfl 0 (by decide) kX12_7 rfl dX12_load_62 ?_
          refine ii_iload 0 dX12_load_65 rfl ?_
          refine ii_iload_n 2 dX12_load_67 rfl ?_
          refine ii_iast (fun g_7 => [(a_this, .inr (12, [.ref a_this_st, .ref a_this_images, .ref a_this_isKept, .long v_this_above, .long v_this_below, .int v_this_steps, .ref a_this_step, .ref a_this_with, .int v_this_waiting, .ref a_this_waits, .ref a_this_value, .ref a_this_given, .ref a_this_net, .ref a_this_together, .ref a_this_most, .ref a_this_owes, .ref a_this_can, .ref a_this_row, .ref a_this_before, .ref a_this_to, .ref a_this_on, .ref a_this_load, .ref a_this_lead, .ref a_this_bestLead, .ref a_this_silver])), (a_this_st, .inl (cI, 1951, .inl g_7))]) h 1 0 rfl rfl dX12_load_68 (fun _ => rfl) (fun g_7 h => ?_)
          refine ii_aload_n 1 dX12_load_69 rfl ?_
          refine ii_get (C := RX12) (T := TX12) (N := 25) (ci := 12) izX12 0 rfl rfl 0 (by decide) kX12_7 rfl dX12_load_70 ?_
          refine ii_iload 0 dX12_load_73 rfl ?_
          refine ii_iconst dX12_load_75 kc1 ?_
          refine ii_iadd dX12_load_76 ?_
          refine ii_iload_n 3 dX12_load_77 rfl ?_
          refine ii_iast (fun g_8 => [(a_this, .inr (12, [.ref a_this_st, .ref a_this_images, .ref a_this_isKept, .long v_this_above, .long v_this_below, .int v_this_steps, .ref a_this_step, .ref a_this_with, .int v_this_waiting, .ref a_this_waits, .ref a_this_value, .ref a_this_given, .ref a_this_net, .ref a_this_together, .ref a_this_most, .ref a_this_owes, .ref a_this_can, .ref a_this_row, .ref a_this_before, .ref a_this_to, .ref a_this_on, .ref a_this_load, .ref a_this_lead, .ref a_this_bestLead, .ref a_this_silver])), (a_this_st, .inl (cI, 1951, .inl g_8))]) h 1 0 rfl rfl dX12_load_78 (fun _ => rfl) (fun g_8 h => ?_)
          refine ii_aload_n 1 dX12_load_79 rfl ?_
          refine ii_get (C := RX12) (T := TX12) (N := 25) (ci := 12) izX12 0 rfl rfl 0 (by decide) kX12_7 rfl dX12_load_80 ?_
          refine ii_iload 0 dX12_load_83 rfl ?_
          refine ii_iconst dX12_load_85 kc2 ?_
          refine ii_iadd dX12_load_86 ?_
          refine ii_iload_n 4 dX12_load_87 rfl ?_
          refine ii_iast (fun g_9 => [(a_this, .inr (12, [.ref a_this_st, .ref a_this_images, .ref a_this_isKept, .long v_this_above, .long v_this_below, .int v_this_steps, .ref a_this_step, .ref a_this_with, .int v_this_waiting, .ref a_this_waits, .ref a_this_value, .ref a_this_given, .ref a_this_net, .ref a_this_together, .ref a_this_most, .ref a_this_owes, .ref a_this_can, .ref a_this_row, .ref a_this_before, .ref a_this_to, .ref a_this_on, .ref a_this_load, .ref a_this_lead, .ref a_this_bestLead, .ref a_this_silver])), (a_this_st, .inl (cI, 1951, .inl g_9))]) h 1 0 rfl rfl dX12_load_88 (fun _ => rfl) (fun g_9 h => ?_)
          refine ii_aload_n 1 dX12_load_89 rfl ?_
          refine ii_bipush dX12_load_90 kb10 ?_
          obtain ⟨c_10, hc_10, h⟩ := bnd h
          refine ii_callVi (As := [.int (10 : Int32)]) (ws' := [(a_this, .inr (12, [.ref a_this_st, .ref a_this_images, .ref a_this_isKept, .long v_this_above, .long v_this_below, .int v_this_steps, .ref a_this_step, .ref a_this_with, .int v_this_waiting, .ref a_this_waits, .ref a_this_value, .ref a_this_given, .ref a_this_net, .ref a_this_together, .ref a_this_most, .ref a_this_owes, .ref a_this_can, .ref a_this_row, .ref a_this_before, .ref a_this_to, .ref a_this_on, .ref a_this_load, .ref a_this_lead, .ref a_this_bestLead, .ref a_this_silver])), (a_this_st, .inl (cI, 1951, .inl c_10.2))]) (st := []) (c_X12_one l D cI cJ cZ cH a_this a_this_before a_this_bestLead a_this_can a_this_given a_this_images a_this_isKept a_this_lead a_this_load a_this_most a_this_net a_this_on a_this_owes a_this_row a_this_silver a_this_st a_this_step a_this_to a_this_together a_this_value a_this_waits a_this_with v_this_above v_this_below g_9 v_this_steps v_this_waiting (10 : Int32) hc_10) gzX12_91 rfl rfl rfl eV_X12_one ⟨Nat.le_of_ble_eq_true rfl, Nat.le_of_ble_eq_true rfl⟩ rfl 0 rfl rfl [0, 1] rfl rfl rfl rfl rfl (Nat.le_of_ble_eq_true rfl) (Nat.le_refl _) (Nat.le_refl _) rfl dX12_load_92 ?_
          cases h
          exact hQ _ _ dX12_load_95
        · skip
          refine ii_bipush dX12_load_43 kbm4 ?_
          cases h
          exact hQ _ _ dX12_load_45
      · skip
        refine ii_bipush dX12_load_28 kbm2 ?_
        cases h
        exact hQ _ _ dX12_load_30
set_option maxHeartbeats 4000000 in
set_option maxRecDepth 100000 in
theorem c_X12_unload (l : Launch) (D : va_G) (cI cJ cZ cH : ClassId) (a_this a_this_before a_this_bestLead a_this_can a_this_given a_this_images a_this_isKept a_this_lead a_this_load a_this_most a_this_net a_this_on a_this_owes a_this_row a_this_silver a_this_st a_this_step a_this_to a_this_together a_this_value a_this_waits a_this_with : Nat) (v_this_above : Int64) (v_this_below : Int64) (v_this_st : Nat → Int32) (v_this_steps : Int32) (v_this_waiting : Int32) {res : Int32 × (Nat → Int32)} (h : F_X12_unload v_this_st = some res) : CTi l yX12_unload wzX12_unload { frames := 1, cells := 0, slots := 0, locals := 23 } D [(cI, .int), (cJ, .long), (cZ, .boolean), (cH, .object "TinHouse$House")] [.ref a_this] [(a_this, .inr (12, [.ref a_this_st, .ref a_this_images, .ref a_this_isKept, .long v_this_above, .long v_this_below, .int v_this_steps, .ref a_this_step, .ref a_this_with, .int v_this_waiting, .ref a_this_waits, .ref a_this_value, .ref a_this_given, .ref a_this_net, .ref a_this_together, .ref a_this_most, .ref a_this_owes, .ref a_this_can, .ref a_this_row, .ref a_this_before, .ref a_this_to, .ref a_this_on, .ref a_this_load, .ref a_this_lead, .ref a_this_bestLead, .ref a_this_silver])), (a_this_st, .inl (cI, 1951, .inl v_this_st))] res.1 [(a_this, .inr (12, [.ref a_this_st, .ref a_this_images, .ref a_this_isKept, .long v_this_above, .long v_this_below, .int v_this_steps, .ref a_this_step, .ref a_this_with, .int v_this_waiting, .ref a_this_waits, .ref a_this_value, .ref a_this_given, .ref a_this_net, .ref a_this_together, .ref a_this_most, .ref a_this_owes, .ref a_this_can, .ref a_this_row, .ref a_this_before, .ref a_this_to, .ref a_this_on, .ref a_this_load, .ref a_this_lead, .ref a_this_bestLead, .ref a_this_silver])), (a_this_st, .inl (cI, 1951, .inl res.2))] := by
  unfold F_X12_unload at h
  refine ii_metI (own := RX12) (lv0 := [(0, .ref a_this)]) (by decide) rfl rfl rfl (Nat.le_of_ble_eq_true rfl) (fun {p e s m args below meth c A Q} hQ => ?_)
  refine ii_aload_n 0 dX12_unload_0 rfl ?_
  refine ii_bipush dX12_unload_1 kb10 ?_
  refine ii_iconst dX12_unload_3 kc0 ?_
  obtain ⟨c_1, hc_1, h⟩ := bnd h
  refine ii_callVi (As := [.int (10 : Int32), .int (0 : Int32)]) (ws' := [(a_this, .inr (12, [.ref a_this_st, .ref a_this_images, .ref a_this_isKept, .long v_this_above, .long v_this_below, .int v_this_steps, .ref a_this_step, .ref a_this_with, .int v_this_waiting, .ref a_this_waits, .ref a_this_value, .ref a_this_given, .ref a_this_net, .ref a_this_together, .ref a_this_most, .ref a_this_owes, .ref a_this_can, .ref a_this_row, .ref a_this_before, .ref a_this_to, .ref a_this_on, .ref a_this_load, .ref a_this_lead, .ref a_this_bestLead, .ref a_this_silver])), (a_this_st, .inl (cI, 1951, .inl c_1.2))]) (st := []) (c_X12_puts l D cI cJ cZ cH a_this a_this_before a_this_bestLead a_this_can a_this_given a_this_images a_this_isKept a_this_lead a_this_load a_this_most a_this_net a_this_on a_this_owes a_this_row a_this_silver a_this_st a_this_step a_this_to a_this_together a_this_value a_this_waits a_this_with v_this_above v_this_below v_this_st v_this_steps v_this_waiting (10 : Int32) (0 : Int32) hc_1) gzX12_144 rfl rfl rfl eV_X12_puts ⟨Nat.le_of_ble_eq_true rfl, Nat.le_of_ble_eq_true rfl⟩ rfl 0 rfl rfl [0, 1] rfl rfl rfl rfl rfl (Nat.le_of_ble_eq_true rfl) (Nat.le_refl _) (Nat.le_refl _) rfl dX12_unload_4 ?_
  cases h
  exact hQ _ _ dX12_unload_7
set_option maxHeartbeats 4000000 in
set_option maxRecDepth 100000 in
theorem c_X12_price (l : Launch) (D : va_G) (cI cJ cZ cH : ClassId) (a_this a_this_before a_this_bestLead a_this_can a_this_given a_this_images a_this_isKept a_this_lead a_this_load a_this_most a_this_net a_this_on a_this_owes a_this_row a_this_silver a_this_st a_this_step a_this_to a_this_together a_this_value a_this_waits a_this_with : Nat) (v_this_above : Int64) (v_this_below : Int64) (v_this_st : Nat → Int32) (v_this_steps : Int32) (v_this_waiting : Int32) (p0 : Int32) (p1 : Int32) {res : Int32 × (Nat → Int32)} (h : F_X12_price v_this_st p0 p1 = some res) : CTi l yX12_price wzX12_price { frames := 1, cells := 0, slots := 0, locals := 25 } D [(cI, .int), (cJ, .long), (cZ, .boolean), (cH, .object "TinHouse$House")] [.ref a_this, .int p0, .int p1] [(a_this, .inr (12, [.ref a_this_st, .ref a_this_images, .ref a_this_isKept, .long v_this_above, .long v_this_below, .int v_this_steps, .ref a_this_step, .ref a_this_with, .int v_this_waiting, .ref a_this_waits, .ref a_this_value, .ref a_this_given, .ref a_this_net, .ref a_this_together, .ref a_this_most, .ref a_this_owes, .ref a_this_can, .ref a_this_row, .ref a_this_before, .ref a_this_to, .ref a_this_on, .ref a_this_load, .ref a_this_lead, .ref a_this_bestLead, .ref a_this_silver])), (a_this_st, .inl (cI, 1951, .inl v_this_st))] res.1 [(a_this, .inr (12, [.ref a_this_st, .ref a_this_images, .ref a_this_isKept, .long v_this_above, .long v_this_below, .int v_this_steps, .ref a_this_step, .ref a_this_with, .int v_this_waiting, .ref a_this_waits, .ref a_this_value, .ref a_this_given, .ref a_this_net, .ref a_this_together, .ref a_this_most, .ref a_this_owes, .ref a_this_can, .ref a_this_row, .ref a_this_before, .ref a_this_to, .ref a_this_on, .ref a_this_load, .ref a_this_lead, .ref a_this_bestLead, .ref a_this_silver])), (a_this_st, .inl (cI, 1951, .inl res.2))] := by
  unfold F_X12_price at h
  refine ii_metI (own := RX12) (lv0 := [(0, .ref a_this), (1, .int p0), (2, .int p1)]) (by decide) rfl rfl rfl (Nat.le_of_ble_eq_true rfl) (fun {p e s m args below meth c A Q} hQ => ?_)
  refine ii_iload_n 1 dX12_price_0 rfl ?_
  refine ii_i2l dX12_price_1 ?_
  refine ii_lconst dX12_price_2 kl0 ?_
  refine ii_ldc2 (v := 2) dX12_price_3 kX12_168 ?_
  obtain ⟨c_1, hc_1, h⟩ := bnd h
  refine ii_callSi (As := [.long p0.toInt64, .long (0 : Int64), .long (2 : Int64)]) (ws' := [(a_this, .inr (12, [.ref a_this_st, .ref a_this_images, .ref a_this_isKept, .long v_this_above, .long v_this_below, .int v_this_steps, .ref a_this_step, .ref a_this_with, .int v_this_waiting, .ref a_this_waits, .ref a_this_value, .ref a_this_given, .ref a_this_net, .ref a_this_together, .ref a_this_most, .ref a_this_owes, .ref a_this_can, .ref a_this_row, .ref a_this_before, .ref a_this_to, .ref a_this_on, .ref a_this_load, .ref a_this_lead, .ref a_this_bestLead, .ref a_this_silver])), (a_this_st, .inl (cI, 1951, .inl v_this_st))]) (st := []) (c_X12_in l D cI cJ cZ cH p0.toInt64 (0 : Int64) (2 : Int64) hc_1) gzX12_79 rfl rfl rfl eS_X12_in ⟨Nat.le_of_ble_eq_true rfl, Nat.le_of_ble_eq_true rfl⟩ rfl [] rfl rfl rfl rfl rfl (Nat.le_of_ble_eq_true rfl) (Nat.le_refl _) (Nat.le_refl _) rfl dX12_price_6 ?_
  refine ii_jn h (fun j_2 => [(a_this, .inr (12, [.ref a_this_st, .ref a_this_images, .ref a_this_isKept, .long v_this_above, .long v_this_below, .int v_this_steps, .ref a_this_step, .ref a_this_with, .int v_this_waiting, .ref a_this_waits, .ref a_this_value, .ref a_this_given, .ref a_this_net, .ref a_this_together, .ref a_this_most, .ref a_this_owes, .ref a_this_can, .ref a_this_row, .ref a_this_before, .ref a_this_to, .ref a_this_on, .ref a_this_load, .ref a_this_lead, .ref a_this_bestLead, .ref a_this_silver])), (a_this_st, .inl (cI, 1951, .inl j_2.2))]) (fun j_2 => []) 38 (fun j_2 => [.int j_2.1]) (fun j_2 h => ?_) (fun j_2 h hjj_2 => ?_)
  · skip
    cases h
    exact hQ _ _ dX12_price_38
  · skip
    refine ii_if_eq (tgt := 36) h dX12_price_9 (by decide) (fun h => ?_) (fun h => ?_)
    · skip
      refine ii_bipush dX12_price_36 kbm2 ?_
      refine ii_lv [] rfl ?_
      cases h
      exact hjj_2
    · skip
      refine ii_iload_n 2 dX12_price_12 rfl ?_
      refine ii_i2l dX12_price_13 ?_
      refine ii_lconst dX12_price_14 kl0 ?_
      refine ii_ldc2 (v := 1000) dX12_price_15 kX12_192 ?_
      obtain ⟨c_3, hc_3, h⟩ := bnd h
      refine ii_callSi (As := [.long p1.toInt64, .long (0 : Int64), .long (1000 : Int64)]) (ws' := [(a_this, .inr (12, [.ref a_this_st, .ref a_this_images, .ref a_this_isKept, .long v_this_above, .long v_this_below, .int v_this_steps, .ref a_this_step, .ref a_this_with, .int v_this_waiting, .ref a_this_waits, .ref a_this_value, .ref a_this_given, .ref a_this_net, .ref a_this_together, .ref a_this_most, .ref a_this_owes, .ref a_this_can, .ref a_this_row, .ref a_this_before, .ref a_this_to, .ref a_this_on, .ref a_this_load, .ref a_this_lead, .ref a_this_bestLead, .ref a_this_silver])), (a_this_st, .inl (cI, 1951, .inl v_this_st))]) (st := []) (c_X12_in l D cI cJ cZ cH p1.toInt64 (0 : Int64) (1000 : Int64) hc_3) gzX12_79 rfl rfl rfl eS_X12_in ⟨Nat.le_of_ble_eq_true rfl, Nat.le_of_ble_eq_true rfl⟩ rfl [] rfl rfl rfl rfl rfl (Nat.le_of_ble_eq_true rfl) (Nat.le_refl _) (Nat.le_refl _) rfl dX12_price_18 ?_
      refine ii_if_eq (tgt := 36) h dX12_price_21 (by decide) (fun h => ?_) (fun h => ?_)
      · skip
        refine ii_bipush dX12_price_36 kbm2 ?_
        refine ii_lv [] rfl ?_
        cases h
        exact hjj_2
      · skip
        refine ii_aload_n 0 dX12_price_24 rfl ?_
        refine ii_bipush dX12_price_25 kb13 ?_
        refine ii_iload_n 1 dX12_price_27 rfl ?_
        refine ii_iadd dX12_price_28 ?_
        refine ii_iload_n 2 dX12_price_29 rfl ?_
        obtain ⟨c_4, hc_4, h⟩ := bnd h
        refine ii_callVi (As := [.int ((13 : Int32) + p0), .int p1]) (ws' := [(a_this, .inr (12, [.ref a_this_st, .ref a_this_images, .ref a_this_isKept, .long v_this_above, .long v_this_below, .int v_this_steps, .ref a_this_step, .ref a_this_with, .int v_this_waiting, .ref a_this_waits, .ref a_this_value, .ref a_this_given, .ref a_this_net, .ref a_this_together, .ref a_this_most, .ref a_this_owes, .ref a_this_can, .ref a_this_row, .ref a_this_before, .ref a_this_to, .ref a_this_on, .ref a_this_load, .ref a_this_lead, .ref a_this_bestLead, .ref a_this_silver])), (a_this_st, .inl (cI, 1951, .inl c_4.2))]) (st := []) (c_X12_puts l D cI cJ cZ cH a_this a_this_before a_this_bestLead a_this_can a_this_given a_this_images a_this_isKept a_this_lead a_this_load a_this_most a_this_net a_this_on a_this_owes a_this_row a_this_silver a_this_st a_this_step a_this_to a_this_together a_this_value a_this_waits a_this_with v_this_above v_this_below v_this_st v_this_steps v_this_waiting ((13 : Int32) + p0) p1 hc_4) gzX12_144 rfl rfl rfl eV_X12_puts ⟨Nat.le_of_ble_eq_true rfl, Nat.le_of_ble_eq_true rfl⟩ rfl 0 rfl rfl [0, 1] rfl rfl rfl rfl rfl (Nat.le_of_ble_eq_true rfl) (Nat.le_refl _) (Nat.le_refl _) rfl dX12_price_30 ?_
        refine ii_goto (tgt := 38) dX12_price_33 (by decide) ?_
        refine ii_lv [] rfl ?_
        cases h
        exact hjj_2
set_option maxHeartbeats 4000000 in
set_option maxRecDepth 100000 in
theorem c_X12_findSilver (l : Launch) (D : va_G) (cI cJ cZ cH : ClassId) (a_this a_this_before a_this_bestLead a_this_can a_this_given a_this_images a_this_isKept a_this_lead a_this_load a_this_most a_this_net a_this_on a_this_owes a_this_row a_this_silver a_this_st a_this_step a_this_to a_this_together a_this_value a_this_waits a_this_with : Nat) (v_this_above : Int64) (v_this_below : Int64) (v_this_given : Nat → Int64) (v_this_silver : Nat → Int64) (v_this_st : Nat → Int32) (v_this_step : Nat → Int32) (v_this_steps : Int32) (v_this_value : Nat → Int64) (v_this_waiting : Int32) (v_this_waits : Nat → Int32) (v_this_with : Nat → Int32) (p0 : Int32) {res : (Nat → Int64) × (Nat → Int64) × (Nat → Int32) × Int32 × (Nat → Int64) × Int32 × (Nat → Int32) × (Nat → Int32)} (h : F_X12_findSilver v_this_given v_this_silver v_this_st v_this_step v_this_steps v_this_value v_this_waiting v_this_waits v_this_with p0 = some res) : CTv l yX12_findSilver wzX12_findSilver { frames := 6, cells := 0, slots := 0, locals := 151 } D [(cI, .int), (cJ, .long), (cZ, .boolean), (cH, .object "TinHouse$House")] [.ref a_this, .int p0] [(a_this, .inr (12, [.ref a_this_st, .ref a_this_images, .ref a_this_isKept, .long v_this_above, .long v_this_below, .int v_this_steps, .ref a_this_step, .ref a_this_with, .int v_this_waiting, .ref a_this_waits, .ref a_this_value, .ref a_this_given, .ref a_this_net, .ref a_this_together, .ref a_this_most, .ref a_this_owes, .ref a_this_can, .ref a_this_row, .ref a_this_before, .ref a_this_to, .ref a_this_on, .ref a_this_load, .ref a_this_lead, .ref a_this_bestLead, .ref a_this_silver])), (a_this_given, .inl (cJ, 5, .inr (.inl v_this_given))), (a_this_silver, .inl (cJ, 54, .inr (.inl v_this_silver))), (a_this_st, .inl (cI, 1951, .inl v_this_st)), (a_this_step, .inl (cI, 70, .inl v_this_step)), (a_this_value, .inl (cJ, 70, .inr (.inl v_this_value))), (a_this_waits, .inl (cI, 70, .inl v_this_waits)), (a_this_with, .inl (cI, 70, .inl v_this_with))] [(a_this, .inr (12, [.ref a_this_st, .ref a_this_images, .ref a_this_isKept, .long v_this_above, .long v_this_below, .int res.2.2.2.1, .ref a_this_step, .ref a_this_with, .int res.2.2.2.2.2.1, .ref a_this_waits, .ref a_this_value, .ref a_this_given, .ref a_this_net, .ref a_this_together, .ref a_this_most, .ref a_this_owes, .ref a_this_can, .ref a_this_row, .ref a_this_before, .ref a_this_to, .ref a_this_on, .ref a_this_load, .ref a_this_lead, .ref a_this_bestLead, .ref a_this_silver])), (a_this_given, .inl (cJ, 5, .inr (.inl res.1))), (a_this_silver, .inl (cJ, 54, .inr (.inl res.2.1))), (a_this_st, .inl (cI, 1951, .inl v_this_st)), (a_this_step, .inl (cI, 70, .inl res.2.2.1)), (a_this_value, .inl (cJ, 70, .inr (.inl res.2.2.2.2.1))), (a_this_waits, .inl (cI, 70, .inl res.2.2.2.2.2.2.1)), (a_this_with, .inl (cI, 70, .inl res.2.2.2.2.2.2.2))] := by
  unfold F_X12_findSilver at h
  refine ii_metV (own := RX12) (lv0 := [(0, .ref a_this), (1, .int p0)]) (by decide) rfl rfl rfl (Nat.le_of_ble_eq_true rfl) (fun {p e s m args below meth c A Q} hQ => ?_)
  refine ii_iconst dX12_findSilver_0 kc0 ?_
  refine ii_istore_n (lv' := [(2, .int (0 : Int32)), (0, .ref a_this), (1, .int p0)]) dX12_findSilver_1 rfl (by decide) rfl ?_
  refine ii_lv [1, 2, 0] rfl ?_
  obtain ⟨x_2, hl_1, h⟩ := bnd h
  refine ii_loopX (fun s_1 => [(a_this, .inr (12, [.ref a_this_st, .ref a_this_images, .ref a_this_isKept, .long v_this_above, .long v_this_below, .int s_1.2.2.2.2.1, .ref a_this_step, .ref a_this_with, .int s_1.2.2.2.2.2.2.1, .ref a_this_waits, .ref a_this_value, .ref a_this_given, .ref a_this_net, .ref a_this_together, .ref a_this_most, .ref a_this_owes, .ref a_this_can, .ref a_this_row, .ref a_this_before, .ref a_this_to, .ref a_this_on, .ref a_this_load, .ref a_this_lead, .ref a_this_bestLead, .ref a_this_silver])), (a_this_given, .inl (cJ, 5, .inr (.inl s_1.2.1))), (a_this_silver, .inl (cJ, 54, .inr (.inl s_1.2.2.1))), (a_this_st, .inl (cI, 1951, .inl v_this_st)), (a_this_step, .inl (cI, 70, .inl s_1.2.2.2.1)), (a_this_value, .inl (cJ, 70, .inr (.inl s_1.2.2.2.2.2.1))), (a_this_waits, .inl (cI, 70, .inl s_1.2.2.2.2.2.2.2.1)), (a_this_with, .inl (cI, 70, .inl s_1.2.2.2.2.2.2.2.2))]) (fun s_1 => [(0, .ref a_this), (1, .int p0), (2, .int s_1.1)]) (fun x_2 => [(a_this, .inr (12, [.ref a_this_st, .ref a_this_images, .ref a_this_isKept, .long v_this_above, .long v_this_below, .int x_2.2.2.2.2.1, .ref a_this_step, .ref a_this_with, .int x_2.2.2.2.2.2.2.1, .ref a_this_waits, .ref a_this_value, .ref a_this_given, .ref a_this_net, .ref a_this_together, .ref a_this_most, .ref a_this_owes, .ref a_this_can, .ref a_this_row, .ref a_this_before, .ref a_this_to, .ref a_this_on, .ref a_this_load, .ref a_this_lead, .ref a_this_bestLead, .ref a_this_silver])), (a_this_given, .inl (cJ, 5, .inr (.inl x_2.2.1))), (a_this_silver, .inl (cJ, 54, .inr (.inl x_2.2.2.1))), (a_this_st, .inl (cI, 1951, .inl v_this_st)), (a_this_step, .inl (cI, 70, .inl x_2.2.2.2.1)), (a_this_value, .inl (cJ, 70, .inr (.inl x_2.2.2.2.2.2.1))), (a_this_waits, .inl (cI, 70, .inl x_2.2.2.2.2.2.2.2.1)), (a_this_with, .inl (cI, 70, .inl x_2.2.2.2.2.2.2.2.2))]) (fun x_2 => []) 171 hl_1 rfl rfl ?_ (fun s_1 o h hb_1 hr_1 hx_1 => ?_)
  · skip
    cases h
    exact hQ _ _ dX12_findSilver_171
  · skip
    refine ii_iload_n 2 dX12_findSilver_2 rfl ?_
    refine ii_aload_n 0 dX12_findSilver_3 rfl ?_
    refine ii_get (C := RX12) (T := TX12) (N := 25) (ci := 12) izX12 0 rfl rfl 0 (by decide) kX12_7 rfl dX12_findSilver_4 ?_
    refine ii_bipush dX12_findSilver_7 kb10 ?_
    refine ii_iald h 3 0 rfl rfl dX12_findSilver_9 (fun t_3 h => ?_)
    refine ii_icmp_ge (tgt := 171) h dX12_findSilver_10 (by decide) (fun h => ?_) (fun h => ?_)
    · skip
      refine ii_lv [] rfl ?_
      cases h
      exact hx_1 (s_1.1, s_1.2.1, s_1.2.2.1, s_1.2.2.2.1, s_1.2.2.2.2.1, s_1.2.2.2.2.2.1, s_1.2.2.2.2.2.2.1, s_1.2.2.2.2.2.2.2.1, s_1.2.2.2.2.2.2.2.2) (hr_1 _ rfl)
    · skip
      refine ii_sipush dX12_findSilver_13 ks1933 ?_
      refine ii_iconst dX12_findSilver_16 kc3 ?_
      refine ii_iload_n 2 dX12_findSilver_17 rfl ?_
      refine ii_imul dX12_findSilver_18 ?_
      refine ii_iadd dX12_findSilver_19 ?_
      refine ii_topI h (fun x_4 h => ?_)
      refine ii_istore_n (lv' := [(3, .int x_4), (0, .ref a_this), (1, .int p0), (2, .int s_1.1)]) dX12_findSilver_20 rfl (by decide) rfl ?_
      refine ii_iconst dX12_findSilver_21 kc0 ?_
      refine ii_istore (lv' := [(4, .int (0 : Int32)), (3, .int x_4), (0, .ref a_this), (1, .int p0), (2, .int s_1.1)]) dX12_findSilver_22 (by decide) rfl ?_
      refine ii_lv [2, 3, 4, 1, 0] rfl ?_
      obtain ⟨x_6, hl_5, h⟩ := bnd h
      refine ii_loopX (fun s_5 => [(a_this, .inr (12, [.ref a_this_st, .ref a_this_images, .ref a_this_isKept, .long v_this_above, .long v_this_below, .int s_5.2.2.2.2.1, .ref a_this_step, .ref a_this_with, .int s_5.2.2.2.2.2.2.1, .ref a_this_waits, .ref a_this_value, .ref a_this_given, .ref a_this_net, .ref a_this_together, .ref a_this_most, .ref a_this_owes, .ref a_this_can, .ref a_this_row, .ref a_this_before, .ref a_this_to, .ref a_this_on, .ref a_this_load, .ref a_this_lead, .ref a_this_bestLead, .ref a_this_silver])), (a_this_given, .inl (cJ, 5, .inr (.inl s_5.2.1))), (a_this_silver, .inl (cJ, 54, .inr (.inl s_5.2.2.1))), (a_this_st, .inl (cI, 1951, .inl v_this_st)), (a_this_step, .inl (cI, 70, .inl s_5.2.2.2.1)), (a_this_value, .inl (cJ, 70, .inr (.inl s_5.2.2.2.2.2.1))), (a_this_waits, .inl (cI, 70, .inl s_5.2.2.2.2.2.2.2.1)), (a_this_with, .inl (cI, 70, .inl s_5.2.2.2.2.2.2.2.2))]) (fun s_5 => [(0, .ref a_this), (1, .int p0), (2, .int s_1.1), (3, .int x_4), (4, .int s_5.1)]) (fun x_6 => [(a_this, .inr (12, [.ref a_this_st, .ref a_this_images, .ref a_this_isKept, .long v_this_above, .long v_this_below, .int x_6.2.2.2.2.1, .ref a_this_step, .ref a_this_with, .int x_6.2.2.2.2.2.2.1, .ref a_this_waits, .ref a_this_value, .ref a_this_given, .ref a_this_net, .ref a_this_together, .ref a_this_most, .ref a_this_owes, .ref a_this_can, .ref a_this_row, .ref a_this_before, .ref a_this_to, .ref a_this_on, .ref a_this_load, .ref a_this_lead, .ref a_this_bestLead, .ref a_this_silver])), (a_this_given, .inl (cJ, 5, .inr (.inl x_6.2.1))), (a_this_silver, .inl (cJ, 54, .inr (.inl x_6.2.2.1))), (a_this_st, .inl (cI, 1951, .inl v_this_st)), (a_this_step, .inl (cI, 70, .inl x_6.2.2.2.1)), (a_this_value, .inl (cJ, 70, .inr (.inl x_6.2.2.2.2.2.1))), (a_this_waits, .inl (cI, 70, .inl x_6.2.2.2.2.2.2.2.1)), (a_this_with, .inl (cI, 70, .inl x_6.2.2.2.2.2.2.2.2))]) (fun x_6 => [(0, .ref a_this), (1, .int p0), (2, .int s_1.1)]) 165 hl_5 rfl rfl ?_ (fun s_5 o h hb_5 hr_5 hx_5 => ?_)
      · skip
        refine ii_iinc (fun x_24 => [(2, .int x_24), (0, .ref a_this), (1, .int p0)]) h 2 dX12_findSilver_165 rfl kc1 (by decide) (fun _ => rfl) (fun x_24 h => ?_)
        refine ii_goto (tgt := 2) dX12_findSilver_168 (by decide) ?_
        refine ii_lv [1, 2, 0] rfl ?_
        cases h
        exact hb_1 (x_24, x_6.2.1, x_6.2.2.1, x_6.2.2.2.1, x_6.2.2.2.2.1, x_6.2.2.2.2.2.1, x_6.2.2.2.2.2.2.1, x_6.2.2.2.2.2.2.2.1, x_6.2.2.2.2.2.2.2.2) rfl
      · skip
        refine ii_iload 4 dX12_findSilver_24 rfl ?_
        refine ii_iconst dX12_findSilver_26 kc3 ?_
        refine ii_icmp_ge (tgt := 165) h dX12_findSilver_27 (by decide) (fun h => ?_) (fun h => ?_)
        · skip
          refine ii_lv [0, 1, 2] rfl ?_
          cases h
          exact hx_5 (s_5.1, s_5.2.1, s_5.2.2.1, s_5.2.2.2.1, s_5.2.2.2.2.1, s_5.2.2.2.2.2.1, s_5.2.2.2.2.2.2.1, s_5.2.2.2.2.2.2.2.1, s_5.2.2.2.2.2.2.2.2) (hr_5 _ rfl)
        · skip
          refine ii_iload 4 dX12_findSilver_30 rfl ?_
          refine ii_jn h (fun j_7 => [(a_this, .inr (12, [.ref a_this_st, .ref a_this_images, .ref a_this_isKept, .long v_this_above, .long v_this_below, .int j_7.2.2.2.1, .ref a_this_step, .ref a_this_with, .int j_7.2.2.2.2.2.1, .ref a_this_waits, .ref a_this_value, .ref a_this_given, .ref a_this_net, .ref a_this_together, .ref a_this_most, .ref a_this_owes, .ref a_this_can, .ref a_this_row, .ref a_this_before, .ref a_this_to, .ref a_this_on, .ref a_this_load, .ref a_this_lead, .ref a_this_bestLead, .ref a_this_silver])), (a_this_given, .inl (cJ, 5, .inr (.inl j_7.2.1))), (a_this_silver, .inl (cJ, 54, .inr (.inl s_5.2.2.1))), (a_this_st, .inl (cI, 1951, .inl v_this_st)), (a_this_step, .inl (cI, 70, .inl j_7.2.2.1)), (a_this_value, .inl (cJ, 70, .inr (.inl j_7.2.2.2.2.1))), (a_this_waits, .inl (cI, 70, .inl j_7.2.2.2.2.2.2.1)), (a_this_with, .inl (cI, 70, .inl j_7.2.2.2.2.2.2.2))]) (fun j_7 => [(0, .ref a_this), (1, .int p0), (2, .int s_1.1), (3, .int x_4), (4, .int s_5.1)]) 87 (fun j_7 => [.long j_7.1]) (fun j_7 h => ?_) (fun j_7 h hjj_7 => ?_)
          · skip
            refine ii_lstore (lv' := [(5, .long j_7.1), (0, .ref a_this), (1, .int p0), (2, .int s_1.1), (3, .int x_4), (4, .int s_5.1)]) dX12_findSilver_87 (by decide) rfl ?_
            refine ii_iconst dX12_findSilver_89 kc0 ?_
            refine ii_istore (lv' := [(7, .int (0 : Int32)), (5, .long j_7.1), (0, .ref a_this), (1, .int p0), (2, .int s_1.1), (3, .int x_4), (4, .int s_5.1)]) dX12_findSilver_90 (by decide) rfl ?_
            refine ii_lv [2, 3, 4, 5, 6, 1, 0] rfl ?_
            obtain ⟨x_16, hl_15, h⟩ := bnd h
            refine ii_loopX (fun s_15 => [(a_this, .inr (12, [.ref a_this_st, .ref a_this_images, .ref a_this_isKept, .long v_this_above, .long v_this_below, .int j_7.2.2.2.1, .ref a_this_step, .ref a_this_with, .int j_7.2.2.2.2.2.1, .ref a_this_waits, .ref a_this_value, .ref a_this_given, .ref a_this_net, .ref a_this_together, .ref a_this_most, .ref a_this_owes, .ref a_this_can, .ref a_this_row, .ref a_this_before, .ref a_this_to, .ref a_this_on, .ref a_this_load, .ref a_this_lead, .ref a_this_bestLead, .ref a_this_silver])), (a_this_given, .inl (cJ, 5, .inr (.inl j_7.2.1))), (a_this_silver, .inl (cJ, 54, .inr (.inl s_15.2))), (a_this_st, .inl (cI, 1951, .inl v_this_st)), (a_this_step, .inl (cI, 70, .inl j_7.2.2.1)), (a_this_value, .inl (cJ, 70, .inr (.inl j_7.2.2.2.2.1))), (a_this_waits, .inl (cI, 70, .inl j_7.2.2.2.2.2.2.1)), (a_this_with, .inl (cI, 70, .inl j_7.2.2.2.2.2.2.2))]) (fun s_15 => [(0, .ref a_this), (1, .int p0), (2, .int s_1.1), (3, .int x_4), (4, .int s_5.1), (5, .long j_7.1), (7, .int s_15.1)]) (fun x_16 => [(a_this, .inr (12, [.ref a_this_st, .ref a_this_images, .ref a_this_isKept, .long v_this_above, .long v_this_below, .int j_7.2.2.2.1, .ref a_this_step, .ref a_this_with, .int j_7.2.2.2.2.2.1, .ref a_this_waits, .ref a_this_value, .ref a_this_given, .ref a_this_net, .ref a_this_together, .ref a_this_most, .ref a_this_owes, .ref a_this_can, .ref a_this_row, .ref a_this_before, .ref a_this_to, .ref a_this_on, .ref a_this_load, .ref a_this_lead, .ref a_this_bestLead, .ref a_this_silver])), (a_this_given, .inl (cJ, 5, .inr (.inl j_7.2.1))), (a_this_silver, .inl (cJ, 54, .inr (.inl x_16.2))), (a_this_st, .inl (cI, 1951, .inl v_this_st)), (a_this_step, .inl (cI, 70, .inl j_7.2.2.1)), (a_this_value, .inl (cJ, 70, .inr (.inl j_7.2.2.2.2.1))), (a_this_waits, .inl (cI, 70, .inl j_7.2.2.2.2.2.2.1)), (a_this_with, .inl (cI, 70, .inl j_7.2.2.2.2.2.2.2))]) (fun x_16 => [(0, .ref a_this), (1, .int p0), (2, .int s_1.1), (3, .int x_4), (4, .int s_5.1)]) 159 hl_15 rfl rfl ?_ (fun s_15 o h hb_15 hr_15 hx_15 => ?_)
            · skip
              refine ii_iinc (fun x_23 => [(4, .int x_23), (0, .ref a_this), (1, .int p0), (2, .int s_1.1), (3, .int x_4)]) h 4 dX12_findSilver_159 rfl kc1 (by decide) (fun _ => rfl) (fun x_23 h => ?_)
              refine ii_goto (tgt := 24) dX12_findSilver_162 (by decide) ?_
              refine ii_lv [1, 2, 3, 4, 0] rfl ?_
              cases h
              exact hb_5 (x_23, j_7.2.1, x_16.2, j_7.2.2.1, j_7.2.2.2.1, j_7.2.2.2.2.1, j_7.2.2.2.2.2.1, j_7.2.2.2.2.2.2.1, j_7.2.2.2.2.2.2.2) rfl
            · skip
              refine ii_iload 6 dX12_findSilver_92 rfl ?_
              refine ii_iconst dX12_findSilver_94 kc3 ?_
              refine ii_icmp_ge (tgt := 159) h dX12_findSilver_95 (by decide) (fun h => ?_) (fun h => ?_)
              · skip
                refine ii_lv [0, 1, 2, 3, 4] rfl ?_
                cases h
                exact hx_15 (s_15.1, s_15.2) (hr_15 _ rfl)
              · skip
                refine ii_aload_n 0 dX12_findSilver_98 rfl ?_
                refine ii_get (C := RX12) (T := TX12) (N := 25) (ci := 12) izX12 0 rfl rfl 24 (by decide) kX12_72 rfl dX12_findSilver_99 ?_
                refine ii_bipush dX12_findSilver_102 kb9 ?_
                refine ii_iload_n 2 dX12_findSilver_104 rfl ?_
                refine ii_imul dX12_findSilver_105 ?_
                refine ii_iconst dX12_findSilver_106 kc3 ?_
                refine ii_iload 4 dX12_findSilver_107 rfl ?_
                refine ii_imul dX12_findSilver_109 ?_
                refine ii_iadd dX12_findSilver_110 ?_
                refine ii_iload 6 dX12_findSilver_111 rfl ?_
                refine ii_iadd dX12_findSilver_113 ?_
                refine ii_iload 4 dX12_findSilver_114 rfl ?_
                refine ii_iconst dX12_findSilver_116 kc2 ?_
                refine ii_jn h (fun j_17 => [(a_this, .inr (12, [.ref a_this_st, .ref a_this_images, .ref a_this_isKept, .long v_this_above, .long v_this_below, .int j_7.2.2.2.1, .ref a_this_step, .ref a_this_with, .int j_7.2.2.2.2.2.1, .ref a_this_waits, .ref a_this_value, .ref a_this_given, .ref a_this_net, .ref a_this_together, .ref a_this_most, .ref a_this_owes, .ref a_this_can, .ref a_this_row, .ref a_this_before, .ref a_this_to, .ref a_this_on, .ref a_this_load, .ref a_this_lead, .ref a_this_bestLead, .ref a_this_silver])), (a_this_given, .inl (cJ, 5, .inr (.inl j_7.2.1))), (a_this_silver, .inl (cJ, 54, .inr (.inl s_15.2))), (a_this_st, .inl (cI, 1951, .inl v_this_st)), (a_this_step, .inl (cI, 70, .inl j_7.2.2.1)), (a_this_value, .inl (cJ, 70, .inr (.inl j_7.2.2.2.2.1))), (a_this_waits, .inl (cI, 70, .inl j_7.2.2.2.2.2.2.1)), (a_this_with, .inl (cI, 70, .inl j_7.2.2.2.2.2.2.2))]) (fun j_17 => [(0, .ref a_this), (1, .int p0), (2, .int s_1.1), (3, .int x_4), (4, .int s_5.1), (5, .long j_7.1), (7, .int s_15.1)]) 152 (fun j_17 => [.long j_17, .int ((((9 : Int32) * s_1.1) + ((3 : Int32) * s_5.1)) + s_15.1), .ref a_this_silver]) (fun j_17 h => ?_) (fun j_17 h hjj_17 => ?_)
                · skip
                  refine ii_last (fun g_21 => [(a_this, .inr (12, [.ref a_this_st, .ref a_this_images, .ref a_this_isKept, .long v_this_above, .long v_this_below, .int j_7.2.2.2.1, .ref a_this_step, .ref a_this_with, .int j_7.2.2.2.2.2.1, .ref a_this_waits, .ref a_this_value, .ref a_this_given, .ref a_this_net, .ref a_this_together, .ref a_this_most, .ref a_this_owes, .ref a_this_can, .ref a_this_row, .ref a_this_before, .ref a_this_to, .ref a_this_on, .ref a_this_load, .ref a_this_lead, .ref a_this_bestLead, .ref a_this_silver])), (a_this_given, .inl (cJ, 5, .inr (.inl j_7.2.1))), (a_this_silver, .inl (cJ, 54, .inr (.inl g_21))), (a_this_st, .inl (cI, 1951, .inl v_this_st)), (a_this_step, .inl (cI, 70, .inl j_7.2.2.1)), (a_this_value, .inl (cJ, 70, .inr (.inl j_7.2.2.2.2.1))), (a_this_waits, .inl (cI, 70, .inl j_7.2.2.2.2.2.2.1)), (a_this_with, .inl (cI, 70, .inl j_7.2.2.2.2.2.2.2))]) h 2 1 rfl rfl dX12_findSilver_152 (fun _ => rfl) (fun g_21 h => ?_)
                  refine ii_iinc (fun x_22 => [(7, .int x_22), (0, .ref a_this), (1, .int p0), (2, .int s_1.1), (3, .int x_4), (4, .int s_5.1), (5, .long j_7.1)]) h 6 dX12_findSilver_153 rfl kc1 (by decide) (fun _ => rfl) (fun x_22 h => ?_)
                  refine ii_goto (tgt := 92) dX12_findSilver_156 (by decide) ?_
                  refine ii_lv [1, 2, 3, 4, 5, 6, 0] rfl ?_
                  cases h
                  exact hb_15 (x_22, g_21) rfl
                · skip
                  refine ii_icmp_ne (tgt := 124) h dX12_findSilver_117 (by decide) (fun h => ?_) (fun h => ?_)
                  · skip
                    refine ii_lload 5 dX12_findSilver_124 rfl ?_
                    refine ii_aload_n 0 dX12_findSilver_126 rfl ?_
                    refine ii_get (C := RX12) (T := TX12) (N := 25) (ci := 12) izX12 0 rfl rfl 0 (by decide) kX12_7 rfl dX12_findSilver_127 ?_
                    refine ii_bipush dX12_findSilver_130 kb13 ?_
                    refine ii_iload 6 dX12_findSilver_132 rfl ?_
                    refine ii_iadd dX12_findSilver_134 ?_
                    refine ii_iald h 3 0 rfl rfl dX12_findSilver_135 (fun t_18 h => ?_)
                    refine ii_i2l dX12_findSilver_136 ?_
                    refine ii_lmul dX12_findSilver_137 ?_
                    refine ii_ldc2 (v := 100) dX12_findSilver_138 kX12_214 ?_
                    refine ii_ldiv h dX12_findSilver_141 (fun t_19 h => ?_)
                    refine ii_aload_n 0 dX12_findSilver_142 rfl ?_
                    refine ii_get (C := RX12) (T := TX12) (N := 25) (ci := 12) izX12 0 rfl rfl 0 (by decide) kX12_7 rfl dX12_findSilver_143 ?_
                    refine ii_iload_n 3 dX12_findSilver_146 rfl ?_
                    refine ii_iconst dX12_findSilver_147 kc2 ?_
                    refine ii_iadd dX12_findSilver_148 ?_
                    refine ii_iald h 3 0 rfl rfl dX12_findSilver_149 (fun t_20 h => ?_)
                    refine ii_i2l dX12_findSilver_150 ?_
                    refine ii_lsub dX12_findSilver_151 ?_
                    cases h
                    exact hjj_17
                  · skip
                    refine ii_lconst dX12_findSilver_120 kl0 ?_
                    refine ii_goto (tgt := 152) dX12_findSilver_121 (by decide) ?_
                    cases h
                    exact hjj_17
          · skip
            refine ii_if_ne (tgt := 58) h dX12_findSilver_32 (by decide) (fun h => ?_) (fun h => ?_)
            · skip
              refine ii_aload_n 0 dX12_findSilver_58 rfl ?_
              refine ii_get (C := RX12) (T := TX12) (N := 25) (ci := 12) izX12 0 rfl rfl 0 (by decide) kX12_7 rfl dX12_findSilver_59 ?_
              refine ii_iload_n 3 dX12_findSilver_62 rfl ?_
              refine ii_iconst dX12_findSilver_63 kc1 ?_
              refine ii_iadd dX12_findSilver_64 ?_
              refine ii_iald h 3 0 rfl rfl dX12_findSilver_65 (fun t_8 h => ?_)
              refine ii_i2l dX12_findSilver_66 ?_
              refine ii_aload_n 0 dX12_findSilver_67 rfl ?_
              refine ii_get (C := RX12) (T := TX12) (N := 25) (ci := 12) izX12 0 rfl rfl 0 (by decide) kX12_7 rfl dX12_findSilver_68 ?_
              refine ii_bipush dX12_findSilver_71 kb11 ?_
              refine ii_iald h 3 0 rfl rfl dX12_findSilver_73 (fun t_9 h => ?_)
              refine ii_iconst dX12_findSilver_74 kc1 ?_
              refine ii_isub dX12_findSilver_75 ?_
              refine ii_i2l dX12_findSilver_76 ?_
              refine ii_lmul dX12_findSilver_77 ?_
              refine ii_aload_n 0 dX12_findSilver_78 rfl ?_
              refine ii_get (C := RX12) (T := TX12) (N := 25) (ci := 12) izX12 0 rfl rfl 0 (by decide) kX12_7 rfl dX12_findSilver_79 ?_
              refine ii_bipush dX12_findSilver_82 kb11 ?_
              refine ii_iald h 3 0 rfl rfl dX12_findSilver_84 (fun t_10 h => ?_)
              refine ii_i2l dX12_findSilver_85 ?_
              refine ii_ldiv h dX12_findSilver_86 (fun t_11 h => ?_)
              cases h
              exact hjj_7
            · skip
              refine ii_aload_n 0 dX12_findSilver_35 rfl ?_
              refine ii_aload_n 0 dX12_findSilver_36 rfl ?_
              refine ii_get (C := RX12) (T := TX12) (N := 25) (ci := 12) izX12 0 rfl rfl 0 (by decide) kX12_7 rfl dX12_findSilver_37 ?_
              refine ii_iload_n 3 dX12_findSilver_40 rfl ?_
              refine ii_iald h 3 0 rfl rfl dX12_findSilver_41 (fun t_12 h => ?_)
              refine ii_aload_n 0 dX12_findSilver_42 rfl ?_
              refine ii_get (C := RX12) (T := TX12) (N := 25) (ci := 12) izX12 0 rfl rfl 0 (by decide) kX12_7 rfl dX12_findSilver_43 ?_
              refine ii_iload_n 3 dX12_findSilver_46 rfl ?_
              refine ii_iconst dX12_findSilver_47 kc1 ?_
              refine ii_iadd dX12_findSilver_48 ?_
              refine ii_iald h 3 0 rfl rfl dX12_findSilver_49 (fun t_13 h => ?_)
              refine ii_iload_n 1 dX12_findSilver_50 rfl ?_
              obtain ⟨c_14, hc_14, h⟩ := bnd h
              refine ii_callVi (As := [.int t_12, .int t_13, .int p0]) (ws' := [(a_this, .inr (12, [.ref a_this_st, .ref a_this_images, .ref a_this_isKept, .long v_this_above, .long v_this_below, .int c_14.2.2.2.1, .ref a_this_step, .ref a_this_with, .int c_14.2.2.2.2.2.1, .ref a_this_waits, .ref a_this_value, .ref a_this_given, .ref a_this_net, .ref a_this_together, .ref a_this_most, .ref a_this_owes, .ref a_this_can, .ref a_this_row, .ref a_this_before, .ref a_this_to, .ref a_this_on, .ref a_this_load, .ref a_this_lead, .ref a_this_bestLead, .ref a_this_silver])), (a_this_given, .inl (cJ, 5, .inr (.inl c_14.2.1))), (a_this_silver, .inl (cJ, 54, .inr (.inl s_5.2.2.1))), (a_this_st, .inl (cI, 1951, .inl v_this_st)), (a_this_step, .inl (cI, 70, .inl c_14.2.2.1)), (a_this_value, .inl (cJ, 70, .inr (.inl c_14.2.2.2.2.1))), (a_this_waits, .inl (cI, 70, .inl c_14.2.2.2.2.2.2.1)), (a_this_with, .inl (cI, 70, .inl c_14.2.2.2.2.2.2.2))]) (st := []) (c_X12_wideOf l D cI cJ cZ cH a_this a_this_before a_this_bestLead a_this_can a_this_given a_this_images a_this_isKept a_this_lead a_this_load a_this_most a_this_net a_this_on a_this_owes a_this_row a_this_silver a_this_st a_this_step a_this_to a_this_together a_this_value a_this_waits a_this_with v_this_above v_this_below s_5.2.1 v_this_st s_5.2.2.2.1 s_5.2.2.2.2.1 s_5.2.2.2.2.2.1 s_5.2.2.2.2.2.2.1 s_5.2.2.2.2.2.2.2.1 s_5.2.2.2.2.2.2.2.2 t_12 t_13 p0 hc_14) gzX12_219 rfl rfl rfl eV_X12_wideOf ⟨Nat.le_of_ble_eq_true rfl, Nat.le_of_ble_eq_true rfl⟩ rfl 0 rfl rfl [0, 1, 3, 4, 5, 6, 7] rfl rfl rfl rfl rfl (Nat.le_of_ble_eq_true rfl) (Nat.le_refl _) (Nat.le_refl _) rfl dX12_findSilver_51 ?_
              refine ii_i2l dX12_findSilver_54 ?_
              refine ii_goto (tgt := 87) dX12_findSilver_55 (by decide) ?_
              cases h
              exact hjj_7
set_option maxHeartbeats 4000000 in
set_option maxRecDepth 100000 in
theorem c_X12_plan (l : Launch) (D : va_G) (cI cJ cZ cH : ClassId) (a_this a_this_before a_this_bestLead a_this_can a_this_given a_this_images a_this_isKept a_this_lead a_this_load a_this_most a_this_net a_this_on a_this_owes a_this_row a_this_silver a_this_st a_this_step a_this_to a_this_together a_this_value a_this_waits a_this_with : Nat) (v_this_above : Int64) (v_this_below : Int64) (v_this_given : Nat → Int64) (v_this_silver : Nat → Int64) (v_this_st : Nat → Int32) (v_this_step : Nat → Int32) (v_this_steps : Int32) (v_this_value : Nat → Int64) (v_this_waiting : Int32) (v_this_waits : Nat → Int32) (v_this_with : Nat → Int32) (p0 : Int32) (p1 : Int32) {res : Int64 × (Nat → Int64) × (Nat → Int64) × (Nat → Int32) × Int32 × (Nat → Int64) × Int32 × (Nat → Int32) × (Nat → Int32)} (h : F_X12_plan v_this_given v_this_silver v_this_st v_this_step v_this_steps v_this_value v_this_waiting v_this_waits v_this_with p0 p1 = some res) : CTl l yX12_plan wzX12_plan { frames := 7, cells := 0, slots := 0, locals := 178 } D [(cI, .int), (cJ, .long), (cZ, .boolean), (cH, .object "TinHouse$House")] [.ref a_this, .int p0, .int p1] [(a_this, .inr (12, [.ref a_this_st, .ref a_this_images, .ref a_this_isKept, .long v_this_above, .long v_this_below, .int v_this_steps, .ref a_this_step, .ref a_this_with, .int v_this_waiting, .ref a_this_waits, .ref a_this_value, .ref a_this_given, .ref a_this_net, .ref a_this_together, .ref a_this_most, .ref a_this_owes, .ref a_this_can, .ref a_this_row, .ref a_this_before, .ref a_this_to, .ref a_this_on, .ref a_this_load, .ref a_this_lead, .ref a_this_bestLead, .ref a_this_silver])), (a_this_given, .inl (cJ, 5, .inr (.inl v_this_given))), (a_this_silver, .inl (cJ, 54, .inr (.inl v_this_silver))), (a_this_st, .inl (cI, 1951, .inl v_this_st)), (a_this_step, .inl (cI, 70, .inl v_this_step)), (a_this_value, .inl (cJ, 70, .inr (.inl v_this_value))), (a_this_waits, .inl (cI, 70, .inl v_this_waits)), (a_this_with, .inl (cI, 70, .inl v_this_with))] res.1 [(a_this, .inr (12, [.ref a_this_st, .ref a_this_images, .ref a_this_isKept, .long v_this_above, .long v_this_below, .int res.2.2.2.2.1, .ref a_this_step, .ref a_this_with, .int res.2.2.2.2.2.2.1, .ref a_this_waits, .ref a_this_value, .ref a_this_given, .ref a_this_net, .ref a_this_together, .ref a_this_most, .ref a_this_owes, .ref a_this_can, .ref a_this_row, .ref a_this_before, .ref a_this_to, .ref a_this_on, .ref a_this_load, .ref a_this_lead, .ref a_this_bestLead, .ref a_this_silver])), (a_this_given, .inl (cJ, 5, .inr (.inl res.2.1))), (a_this_silver, .inl (cJ, 54, .inr (.inl res.2.2.1))), (a_this_st, .inl (cI, 1951, .inl v_this_st)), (a_this_step, .inl (cI, 70, .inl res.2.2.2.1)), (a_this_value, .inl (cJ, 70, .inr (.inl res.2.2.2.2.2.1))), (a_this_waits, .inl (cI, 70, .inl res.2.2.2.2.2.2.2.1)), (a_this_with, .inl (cI, 70, .inl res.2.2.2.2.2.2.2.2))] := by
  unfold F_X12_plan at h
  refine ii_metL (own := RX12) (lv0 := [(0, .ref a_this), (1, .int p0), (2, .int p1)]) (by decide) rfl rfl rfl (Nat.le_of_ble_eq_true rfl) (fun {p e s m args below meth c A Q} hQ => ?_)
  refine ii_iload_n 1 dX12_plan_0 rfl ?_
  obtain ⟨c_1, hc_1, h⟩ := bnd h
  refine ii_callSi (As := [.int p0]) (ws' := [(a_this, .inr (12, [.ref a_this_st, .ref a_this_images, .ref a_this_isKept, .long v_this_above, .long v_this_below, .int v_this_steps, .ref a_this_step, .ref a_this_with, .int v_this_waiting, .ref a_this_waits, .ref a_this_value, .ref a_this_given, .ref a_this_net, .ref a_this_together, .ref a_this_most, .ref a_this_owes, .ref a_this_can, .ref a_this_row, .ref a_this_before, .ref a_this_to, .ref a_this_on, .ref a_this_load, .ref a_this_lead, .ref a_this_bestLead, .ref a_this_silver])), (a_this_given, .inl (cJ, 5, .inr (.inl v_this_given))), (a_this_silver, .inl (cJ, 54, .inr (.inl v_this_silver))), (a_this_st, .inl (cI, 1951, .inl v_this_st)), (a_this_step, .inl (cI, 70, .inl v_this_step)), (a_this_value, .inl (cJ, 70, .inr (.inl v_this_value))), (a_this_waits, .inl (cI, 70, .inl v_this_waits)), (a_this_with, .inl (cI, 70, .inl v_this_with))]) (st := []) (c_X12_isSeason l D cI cJ cZ cH p0 hc_1) gzX12_153 rfl rfl rfl eS_X12_isSeason ⟨Nat.le_of_ble_eq_true rfl, Nat.le_of_ble_eq_true rfl⟩ rfl [] rfl rfl rfl rfl rfl (Nat.le_of_ble_eq_true rfl) (Nat.le_refl _) (Nat.le_refl _) rfl dX12_plan_1 ?_
  refine ii_if_eq (tgt := 22) h dX12_plan_4 (by decide) (fun h => ?_) (fun h => ?_)
  · skip
    refine ii_ldc2 (v := -9000000000000000000) dX12_plan_22 kX12_237 ?_
    cases h
    exact hQ _ _ dX12_plan_25
  · skip
    refine ii_iload_n 2 dX12_plan_7 rfl ?_
    refine ii_iconst dX12_plan_8 kcm1 ?_
    refine ii_jf (r := res) (J_X12_plan_1_26 v_this_given v_this_silver v_this_st v_this_step v_this_steps v_this_value v_this_waiting v_this_waits v_this_with p0 p1) (fun v_2 => [(a_this, .inr (12, [.ref a_this_st, .ref a_this_images, .ref a_this_isKept, .long v_this_above, .long v_this_below, .int v_this_steps, .ref a_this_step, .ref a_this_with, .int v_this_waiting, .ref a_this_waits, .ref a_this_value, .ref a_this_given, .ref a_this_net, .ref a_this_together, .ref a_this_most, .ref a_this_owes, .ref a_this_can, .ref a_this_row, .ref a_this_before, .ref a_this_to, .ref a_this_on, .ref a_this_load, .ref a_this_lead, .ref a_this_bestLead, .ref a_this_silver])), (a_this_given, .inl (cJ, 5, .inr (.inl v_this_given))), (a_this_silver, .inl (cJ, 54, .inr (.inl v_this_silver))), (a_this_st, .inl (cI, 1951, .inl v_this_st)), (a_this_step, .inl (cI, 70, .inl v_this_step)), (a_this_value, .inl (cJ, 70, .inr (.inl v_this_value))), (a_this_waits, .inl (cI, 70, .inl v_this_waits)), (a_this_with, .inl (cI, 70, .inl v_this_with))]) (fun v_2 => [(0, .ref a_this), (1, .int p0), (2, .int p1)]) 26 (fun v_2 => []) (fun v_2 h => ?_) (fun hjv_2 => ?_)
    · skip
      refine ii_aload_n 0 dX12_plan_26 rfl ?_
      refine ii_iload_n 1 dX12_plan_27 rfl ?_
      obtain ⟨c_3, hc_3, h⟩ := bnd h
      refine ii_callVv (As := [.int p0]) (ws' := [(a_this, .inr (12, [.ref a_this_st, .ref a_this_images, .ref a_this_isKept, .long v_this_above, .long v_this_below, .int c_3.2.2.2.1, .ref a_this_step, .ref a_this_with, .int c_3.2.2.2.2.2.1, .ref a_this_waits, .ref a_this_value, .ref a_this_given, .ref a_this_net, .ref a_this_together, .ref a_this_most, .ref a_this_owes, .ref a_this_can, .ref a_this_row, .ref a_this_before, .ref a_this_to, .ref a_this_on, .ref a_this_load, .ref a_this_lead, .ref a_this_bestLead, .ref a_this_silver])), (a_this_given, .inl (cJ, 5, .inr (.inl c_3.1))), (a_this_silver, .inl (cJ, 54, .inr (.inl c_3.2.1))), (a_this_st, .inl (cI, 1951, .inl v_this_st)), (a_this_step, .inl (cI, 70, .inl c_3.2.2.1)), (a_this_value, .inl (cJ, 70, .inr (.inl c_3.2.2.2.2.1))), (a_this_waits, .inl (cI, 70, .inl c_3.2.2.2.2.2.2.1)), (a_this_with, .inl (cI, 70, .inl c_3.2.2.2.2.2.2.2))]) (st := []) (c_X12_findSilver l D cI cJ cZ cH a_this a_this_before a_this_bestLead a_this_can a_this_given a_this_images a_this_isKept a_this_lead a_this_load a_this_most a_this_net a_this_on a_this_owes a_this_row a_this_silver a_this_st a_this_step a_this_to a_this_together a_this_value a_this_waits a_this_with v_this_above v_this_below v_this_given v_this_silver v_this_st v_this_step v_this_steps v_this_value v_this_waiting v_this_waits v_this_with p0 hc_3) gzX12_291 rfl rfl rfl eV_X12_findSilver ⟨Nat.le_of_ble_eq_true rfl, Nat.le_of_ble_eq_true rfl⟩ rfl 0 rfl rfl [0, 1, 2, 3, 4, 5, 6, 7] rfl rfl rfl rfl rfl (Nat.le_of_ble_eq_true rfl) (Nat.le_refl _) (Nat.le_refl _) rfl dX12_plan_28 ?_
      refine ii_iconst dX12_plan_31 kc1 ?_
      refine ii_istore_n (lv' := [(3, .int (1 : Int32)), (0, .ref a_this), (1, .int p0), (2, .int p1)]) dX12_plan_32 rfl (by decide) rfl ?_
      refine ii_iconst dX12_plan_33 kc0 ?_
      refine ii_istore (lv' := [(4, .int (0 : Int32)), (3, .int (1 : Int32)), (0, .ref a_this), (1, .int p0), (2, .int p1)]) dX12_plan_34 (by decide) rfl ?_
      refine ii_lv [2, 4, 1, 0] rfl ?_
      obtain ⟨x_5, hl_4, h⟩ := bnd h
      refine ii_loopX (fun s_4 => [(a_this, .inr (12, [.ref a_this_st, .ref a_this_images, .ref a_this_isKept, .long v_this_above, .long v_this_below, .int c_3.2.2.2.1, .ref a_this_step, .ref a_this_with, .int c_3.2.2.2.2.2.1, .ref a_this_waits, .ref a_this_value, .ref a_this_given, .ref a_this_net, .ref a_this_together, .ref a_this_most, .ref a_this_owes, .ref a_this_can, .ref a_this_row, .ref a_this_before, .ref a_this_to, .ref a_this_on, .ref a_this_load, .ref a_this_lead, .ref a_this_bestLead, .ref a_this_silver])), (a_this_given, .inl (cJ, 5, .inr (.inl c_3.1))), (a_this_silver, .inl (cJ, 54, .inr (.inl c_3.2.1))), (a_this_st, .inl (cI, 1951, .inl v_this_st)), (a_this_step, .inl (cI, 70, .inl c_3.2.2.1)), (a_this_value, .inl (cJ, 70, .inr (.inl c_3.2.2.2.2.1))), (a_this_waits, .inl (cI, 70, .inl c_3.2.2.2.2.2.2.1)), (a_this_with, .inl (cI, 70, .inl c_3.2.2.2.2.2.2.2))]) (fun s_4 => [(0, .ref a_this), (2, .int p1), (3, .int s_4.1), (4, .int s_4.2)]) (fun x_5 => [(a_this, .inr (12, [.ref a_this_st, .ref a_this_images, .ref a_this_isKept, .long v_this_above, .long v_this_below, .int c_3.2.2.2.1, .ref a_this_step, .ref a_this_with, .int c_3.2.2.2.2.2.1, .ref a_this_waits, .ref a_this_value, .ref a_this_given, .ref a_this_net, .ref a_this_together, .ref a_this_most, .ref a_this_owes, .ref a_this_can, .ref a_this_row, .ref a_this_before, .ref a_this_to, .ref a_this_on, .ref a_this_load, .ref a_this_lead, .ref a_this_bestLead, .ref a_this_silver])), (a_this_given, .inl (cJ, 5, .inr (.inl c_3.1))), (a_this_silver, .inl (cJ, 54, .inr (.inl c_3.2.1))), (a_this_st, .inl (cI, 1951, .inl v_this_st)), (a_this_step, .inl (cI, 70, .inl c_3.2.2.1)), (a_this_value, .inl (cJ, 70, .inr (.inl c_3.2.2.2.2.1))), (a_this_waits, .inl (cI, 70, .inl c_3.2.2.2.2.2.2.1)), (a_this_with, .inl (cI, 70, .inl c_3.2.2.2.2.2.2.2))]) (fun x_5 => [(0, .ref a_this), (2, .int p1), (3, .int x_5.1)]) 58 hl_4 rfl rfl ?_ (fun s_4 o h hb_4 hr_4 hx_4 => ?_)
      · skip
        refine ii_iconst dX12_plan_58 kc0 ?_
        refine ii_istore (lv' := [(4, .int (0 : Int32)), (0, .ref a_this), (2, .int p1), (3, .int x_5.1)]) dX12_plan_59 (by decide) rfl ?_
        refine ii_lconst dX12_plan_61 kl0 ?_
        refine ii_lstore (lv' := [(5, .long (0 : Int64)), (4, .int (0 : Int32)), (0, .ref a_this), (2, .int p1), (3, .int x_5.1)]) dX12_plan_62 (by decide) rfl ?_
        refine ii_iconst dX12_plan_64 kc0 ?_
        refine ii_istore (lv' := [(7, .int (0 : Int32)), (5, .long (0 : Int64)), (4, .int (0 : Int32)), (0, .ref a_this), (2, .int p1), (3, .int x_5.1)]) dX12_plan_65 (by decide) rfl ?_
        refine ii_lv [3, 4, 5, 2, 1, 0] rfl ?_
        obtain ⟨x_10, hl_9, h⟩ := bnd h
        refine ii_loopX (fun s_9 => [(a_this, .inr (12, [.ref a_this_st, .ref a_this_images, .ref a_this_isKept, .long v_this_above, .long v_this_below, .int c_3.2.2.2.1, .ref a_this_step, .ref a_this_with, .int c_3.2.2.2.2.2.1, .ref a_this_waits, .ref a_this_value, .ref a_this_given, .ref a_this_net, .ref a_this_together, .ref a_this_most, .ref a_this_owes, .ref a_this_can, .ref a_this_row, .ref a_this_before, .ref a_this_to, .ref a_this_on, .ref a_this_load, .ref a_this_lead, .ref a_this_bestLead, .ref a_this_silver])), (a_this_given, .inl (cJ, 5, .inr (.inl c_3.1))), (a_this_silver, .inl (cJ, 54, .inr (.inl c_3.2.1))), (a_this_st, .inl (cI, 1951, .inl v_this_st)), (a_this_step, .inl (cI, 70, .inl c_3.2.2.1)), (a_this_value, .inl (cJ, 70, .inr (.inl c_3.2.2.2.2.1))), (a_this_waits, .inl (cI, 70, .inl c_3.2.2.2.2.2.2.1)), (a_this_with, .inl (cI, 70, .inl c_3.2.2.2.2.2.2.2))]) (fun s_9 => [(0, .ref a_this), (2, .int p1), (3, .int x_5.1), (4, .int s_9.1), (5, .long s_9.2.1), (7, .int s_9.2.2)]) (fun x_10 => [(a_this, .inr (12, [.ref a_this_st, .ref a_this_images, .ref a_this_isKept, .long v_this_above, .long v_this_below, .int c_3.2.2.2.1, .ref a_this_step, .ref a_this_with, .int c_3.2.2.2.2.2.1, .ref a_this_waits, .ref a_this_value, .ref a_this_given, .ref a_this_net, .ref a_this_together, .ref a_this_most, .ref a_this_owes, .ref a_this_can, .ref a_this_row, .ref a_this_before, .ref a_this_to, .ref a_this_on, .ref a_this_load, .ref a_this_lead, .ref a_this_bestLead, .ref a_this_silver])), (a_this_given, .inl (cJ, 5, .inr (.inl c_3.1))), (a_this_silver, .inl (cJ, 54, .inr (.inl c_3.2.1))), (a_this_st, .inl (cI, 1951, .inl v_this_st)), (a_this_step, .inl (cI, 70, .inl c_3.2.2.1)), (a_this_value, .inl (cJ, 70, .inr (.inl c_3.2.2.2.2.1))), (a_this_waits, .inl (cI, 70, .inl c_3.2.2.2.2.2.2.1)), (a_this_with, .inl (cI, 70, .inl c_3.2.2.2.2.2.2.2))]) (fun x_10 => [(0, .ref a_this), (2, .int p1), (4, .int x_10.1), (5, .long x_10.2.1)]) 200 hl_9 rfl rfl ?_ (fun s_9 o h hb_9 hr_9 hx_9 => ?_)
        · skip
          refine ii_iload 2 dX12_plan_200 rfl ?_
          refine ii_istore (lv' := [(7, .int x_10.1), (0, .ref a_this), (2, .int p1), (4, .int x_10.1), (5, .long x_10.2.1)]) dX12_plan_202 (by decide) rfl ?_
          refine ii_aload_n 1 dX12_plan_204 rfl ?_
          refine ii_get (C := RX12) (T := TX12) (N := 25) (ci := 12) izX12 0 rfl rfl 0 (by decide) kX12_7 rfl dX12_plan_205 ?_
          refine ii_bipush dX12_plan_208 kb10 ?_
          refine ii_iald h 3 0 rfl rfl dX12_plan_210 (fun t_26 h => ?_)
          refine ii_iconst dX12_plan_211 kc1 ?_
          refine ii_isub dX12_plan_212 ?_
          refine ii_topI h (fun x_27 h => ?_)
          refine ii_istore (lv' := [(8, .int x_27), (7, .int x_10.1), (0, .ref a_this), (2, .int p1), (4, .int x_10.1), (5, .long x_10.2.1)]) dX12_plan_213 (by decide) rfl ?_
          refine ii_lv [3, 5, 1, 0] rfl ?_
          obtain ⟨x_29, hl_28, h⟩ := bnd h
          refine ii_loopX (fun s_28 => [(a_this, .inr (12, [.ref a_this_st, .ref a_this_images, .ref a_this_isKept, .long v_this_above, .long v_this_below, .int c_3.2.2.2.1, .ref a_this_step, .ref a_this_with, .int c_3.2.2.2.2.2.1, .ref a_this_waits, .ref a_this_value, .ref a_this_given, .ref a_this_net, .ref a_this_together, .ref a_this_most, .ref a_this_owes, .ref a_this_can, .ref a_this_row, .ref a_this_before, .ref a_this_to, .ref a_this_on, .ref a_this_load, .ref a_this_lead, .ref a_this_bestLead, .ref a_this_silver])), (a_this_given, .inl (cJ, 5, .inr (.inl c_3.1))), (a_this_silver, .inl (cJ, 54, .inr (.inl c_3.2.1))), (a_this_st, .inl (cI, 1951, .inl v_this_st)), (a_this_step, .inl (cI, 70, .inl c_3.2.2.1)), (a_this_value, .inl (cJ, 70, .inr (.inl c_3.2.2.2.2.1))), (a_this_waits, .inl (cI, 70, .inl c_3.2.2.2.2.2.2.1)), (a_this_with, .inl (cI, 70, .inl c_3.2.2.2.2.2.2.2))]) (fun s_28 => [(2, .int p1), (5, .long x_10.2.1), (7, .int s_28.1), (8, .int s_28.2)]) (fun x_29 => [(a_this, .inr (12, [.ref a_this_st, .ref a_this_images, .ref a_this_isKept, .long v_this_above, .long v_this_below, .int c_3.2.2.2.1, .ref a_this_step, .ref a_this_with, .int c_3.2.2.2.2.2.1, .ref a_this_waits, .ref a_this_value, .ref a_this_given, .ref a_this_net, .ref a_this_together, .ref a_this_most, .ref a_this_owes, .ref a_this_can, .ref a_this_row, .ref a_this_before, .ref a_this_to, .ref a_this_on, .ref a_this_load, .ref a_this_lead, .ref a_this_bestLead, .ref a_this_silver])), (a_this_given, .inl (cJ, 5, .inr (.inl c_3.1))), (a_this_silver, .inl (cJ, 54, .inr (.inl c_3.2.1))), (a_this_st, .inl (cI, 1951, .inl v_this_st)), (a_this_step, .inl (cI, 70, .inl c_3.2.2.1)), (a_this_value, .inl (cJ, 70, .inr (.inl c_3.2.2.2.2.1))), (a_this_waits, .inl (cI, 70, .inl c_3.2.2.2.2.2.2.1)), (a_this_with, .inl (cI, 70, .inl c_3.2.2.2.2.2.2.2))]) (fun x_29 => [(2, .int p1), (5, .long x_10.2.1), (7, .int x_29.1)]) 238 hl_28 rfl rfl ?_ (fun s_28 o h hb_28 hr_28 hx_28 => ?_)
          · skip
            refine ii_iload_n 0 dX12_plan_238 rfl ?_
            refine ii_iconst dX12_plan_239 kcm1 ?_
            refine ii_jn h (fun j_32 => [(a_this, .inr (12, [.ref a_this_st, .ref a_this_images, .ref a_this_isKept, .long v_this_above, .long v_this_below, .int c_3.2.2.2.1, .ref a_this_step, .ref a_this_with, .int c_3.2.2.2.2.2.1, .ref a_this_waits, .ref a_this_value, .ref a_this_given, .ref a_this_net, .ref a_this_together, .ref a_this_most, .ref a_this_owes, .ref a_this_can, .ref a_this_row, .ref a_this_before, .ref a_this_to, .ref a_this_on, .ref a_this_load, .ref a_this_lead, .ref a_this_bestLead, .ref a_this_silver])), (a_this_given, .inl (cJ, 5, .inr (.inl c_3.1))), (a_this_silver, .inl (cJ, 54, .inr (.inl c_3.2.1))), (a_this_st, .inl (cI, 1951, .inl v_this_st)), (a_this_step, .inl (cI, 70, .inl c_3.2.2.1)), (a_this_value, .inl (cJ, 70, .inr (.inl c_3.2.2.2.2.1))), (a_this_waits, .inl (cI, 70, .inl c_3.2.2.2.2.2.2.1)), (a_this_with, .inl (cI, 70, .inl c_3.2.2.2.2.2.2.2))]) (fun j_32 => []) 253 (fun j_32 => [.long j_32]) (fun j_32 h => ?_) (fun j_32 h hjj_32 => ?_)
            · skip
              cases h
              exact hQ _ _ dX12_plan_253
            · skip
              refine ii_icmp_ne (tgt := 248) h dX12_plan_240 (by decide) (fun h => ?_) (fun h => ?_)
              · skip
                refine ii_iload 2 dX12_plan_248 rfl ?_
                refine ii_iconst dX12_plan_250 kc3 ?_
                refine ii_irem h dX12_plan_251 (fun t_33 h => ?_)
                refine ii_i2l dX12_plan_252 ?_
                refine ii_lv [] rfl ?_
                cases h
                exact hjj_32
              · skip
                refine ii_lload 1 dX12_plan_243 rfl ?_
                refine ii_goto (tgt := 253) dX12_plan_245 (by decide) ?_
                refine ii_lv [] rfl ?_
                cases h
                exact hjj_32
          · skip
            refine ii_iload 3 dX12_plan_215 rfl ?_
            refine ii_iload_n 0 dX12_plan_217 rfl ?_
            refine ii_icmp_le (tgt := 238) h dX12_plan_218 (by decide) (fun h => ?_) (fun h => ?_)
            · skip
              refine ii_lv [0, 1, 2] rfl ?_
              cases h
              exact hx_28 (s_28.1, s_28.2) (hr_28 _ rfl)
            · skip
              refine ii_iload_n 0 dX12_plan_221 rfl ?_
              refine ii_iconst dX12_plan_222 kcm1 ?_
              refine ii_icmp_eq (tgt := 238) h dX12_plan_223 (by decide) (fun h => ?_) (fun h => ?_)
              · skip
                refine ii_lv [0, 1, 2] rfl ?_
                cases h
                exact hx_28 (s_28.1, s_28.2) (hr_28 _ rfl)
              · skip
                refine ii_iload 2 dX12_plan_226 rfl ?_
                refine ii_iconst dX12_plan_228 kc3 ?_
                refine ii_idiv h dX12_plan_229 (fun t_30 h => ?_)
                refine ii_istore (lv' := [(7, .int t_30), (2, .int p1), (5, .long x_10.2.1), (8, .int s_28.2)]) dX12_plan_230 (by decide) rfl ?_
                refine ii_iinc (fun x_31 => [(8, .int x_31), (7, .int t_30), (2, .int p1), (5, .long x_10.2.1)]) h 3 dX12_plan_232 rfl kcm1 (by decide) (fun _ => rfl) (fun x_31 h => ?_)
                refine ii_goto (tgt := 215) dX12_plan_235 (by decide) ?_
                refine ii_lv [2, 3, 1, 0] rfl ?_
                cases h
                exact hb_28 (t_30, x_31) rfl
        · skip
          refine ii_iload 5 dX12_plan_67 rfl ?_
          refine ii_iload_n 2 dX12_plan_69 rfl ?_
          refine ii_icmp_ge (tgt := 200) h dX12_plan_70 (by decide) (fun h => ?_) (fun h => ?_)
          · skip
            refine ii_lv [0, 1, 3, 4] rfl ?_
            cases h
            exact hx_9 (s_9.1, s_9.2.1, s_9.2.2) (hr_9 _ rfl)
          · skip
            refine ii_lconst dX12_plan_73 kl0 ?_
            refine ii_lstore (lv' := [(8, .long (0 : Int64)), (0, .ref a_this), (2, .int p1), (3, .int x_5.1), (4, .int s_9.1), (5, .long s_9.2.1), (7, .int s_9.2.2)]) dX12_plan_74 (by decide) rfl ?_
            refine ii_iconst dX12_plan_76 kc0 ?_
            refine ii_istore (lv' := [(10, .int (0 : Int32)), (8, .long (0 : Int64)), (0, .ref a_this), (2, .int p1), (3, .int x_5.1), (4, .int s_9.1), (5, .long s_9.2.1), (7, .int s_9.2.2)]) dX12_plan_77 (by decide) rfl ?_
            refine ii_lv [2, 3, 4, 5, 6, 7, 1, 0] rfl ?_
            obtain ⟨x_12, hl_11, h⟩ := bnd h
            refine ii_loopX (fun s_11 => [(a_this, .inr (12, [.ref a_this_st, .ref a_this_images, .ref a_this_isKept, .long v_this_above, .long v_this_below, .int c_3.2.2.2.1, .ref a_this_step, .ref a_this_with, .int c_3.2.2.2.2.2.1, .ref a_this_waits, .ref a_this_value, .ref a_this_given, .ref a_this_net, .ref a_this_together, .ref a_this_most, .ref a_this_owes, .ref a_this_can, .ref a_this_row, .ref a_this_before, .ref a_this_to, .ref a_this_on, .ref a_this_load, .ref a_this_lead, .ref a_this_bestLead, .ref a_this_silver])), (a_this_given, .inl (cJ, 5, .inr (.inl c_3.1))), (a_this_silver, .inl (cJ, 54, .inr (.inl c_3.2.1))), (a_this_st, .inl (cI, 1951, .inl v_this_st)), (a_this_step, .inl (cI, 70, .inl c_3.2.2.1)), (a_this_value, .inl (cJ, 70, .inr (.inl c_3.2.2.2.2.1))), (a_this_waits, .inl (cI, 70, .inl c_3.2.2.2.2.2.2.1)), (a_this_with, .inl (cI, 70, .inl c_3.2.2.2.2.2.2.2))]) (fun s_11 => [(0, .ref a_this), (2, .int p1), (3, .int x_5.1), (4, .int s_9.1), (5, .long s_9.2.1), (7, .int s_9.2.2), (8, .long s_11.1), (10, .int s_11.2)]) (fun x_12 => [(a_this, .inr (12, [.ref a_this_st, .ref a_this_images, .ref a_this_isKept, .long v_this_above, .long v_this_below, .int c_3.2.2.2.1, .ref a_this_step, .ref a_this_with, .int c_3.2.2.2.2.2.1, .ref a_this_waits, .ref a_this_value, .ref a_this_given, .ref a_this_net, .ref a_this_together, .ref a_this_most, .ref a_this_owes, .ref a_this_can, .ref a_this_row, .ref a_this_before, .ref a_this_to, .ref a_this_on, .ref a_this_load, .ref a_this_lead, .ref a_this_bestLead, .ref a_this_silver])), (a_this_given, .inl (cJ, 5, .inr (.inl c_3.1))), (a_this_silver, .inl (cJ, 54, .inr (.inl c_3.2.1))), (a_this_st, .inl (cI, 1951, .inl v_this_st)), (a_this_step, .inl (cI, 70, .inl c_3.2.2.1)), (a_this_value, .inl (cJ, 70, .inr (.inl c_3.2.2.2.2.1))), (a_this_waits, .inl (cI, 70, .inl c_3.2.2.2.2.2.2.1)), (a_this_with, .inl (cI, 70, .inl c_3.2.2.2.2.2.2.2))]) (fun x_12 => [(0, .ref a_this), (2, .int p1), (3, .int x_5.1), (4, .int s_9.1), (5, .long s_9.2.1), (7, .int s_9.2.2), (8, .long x_12.1)]) 173 hl_11 rfl rfl ?_ (fun s_11 o h hb_11 hr_11 hx_11 => ?_)
            · skip
              refine ii_iload 5 dX12_plan_173 rfl ?_
              refine ii_jn h (fun j_24 => [(a_this, .inr (12, [.ref a_this_st, .ref a_this_images, .ref a_this_isKept, .long v_this_above, .long v_this_below, .int c_3.2.2.2.1, .ref a_this_step, .ref a_this_with, .int c_3.2.2.2.2.2.1, .ref a_this_waits, .ref a_this_value, .ref a_this_given, .ref a_this_net, .ref a_this_together, .ref a_this_most, .ref a_this_owes, .ref a_this_can, .ref a_this_row, .ref a_this_before, .ref a_this_to, .ref a_this_on, .ref a_this_load, .ref a_this_lead, .ref a_this_bestLead, .ref a_this_silver])), (a_this_given, .inl (cJ, 5, .inr (.inl c_3.1))), (a_this_silver, .inl (cJ, 54, .inr (.inl c_3.2.1))), (a_this_st, .inl (cI, 1951, .inl v_this_st)), (a_this_step, .inl (cI, 70, .inl c_3.2.2.1)), (a_this_value, .inl (cJ, 70, .inr (.inl c_3.2.2.2.2.1))), (a_this_waits, .inl (cI, 70, .inl c_3.2.2.2.2.2.2.1)), (a_this_with, .inl (cI, 70, .inl c_3.2.2.2.2.2.2.2))]) (fun j_24 => [(0, .ref a_this), (2, .int p1), (3, .int x_5.1), (4, .int j_24.1), (5, .long j_24.2), (7, .int s_9.2.2)]) 194 (fun j_24 => []) (fun j_24 h => ?_) (fun j_24 h hjj_24 => ?_)
              · skip
                refine ii_iinc (fun x_25 => [(7, .int x_25), (0, .ref a_this), (2, .int p1), (3, .int x_5.1), (4, .int j_24.1), (5, .long j_24.2)]) h 5 dX12_plan_194 rfl kc1 (by decide) (fun _ => rfl) (fun x_25 h => ?_)
                refine ii_goto (tgt := 67) dX12_plan_197 (by decide) ?_
                refine ii_lv [1, 2, 3, 4, 5, 0] rfl ?_
                cases h
                exact hb_9 (j_24.1, j_24.2, x_25) rfl
              · skip
                refine ii_if_eq (tgt := 186) h dX12_plan_175 (by decide) (fun h => ?_) (fun h => ?_)
                · skip
                  refine ii_iload 5 dX12_plan_186 rfl ?_
                  refine ii_istore (lv' := [(4, .int s_9.2.2), (0, .ref a_this), (2, .int p1), (3, .int x_5.1), (5, .long s_9.2.1), (7, .int s_9.2.2), (8, .long x_12.1)]) dX12_plan_188 (by decide) rfl ?_
                  refine ii_lload 6 dX12_plan_190 rfl ?_
                  refine ii_lstore (lv' := [(5, .long x_12.1), (4, .int s_9.2.2), (0, .ref a_this), (2, .int p1), (3, .int x_5.1), (7, .int s_9.2.2), (8, .long x_12.1)]) dX12_plan_192 (by decide) rfl ?_
                  refine ii_lv [2, 3, 4, 1, 0, 5] rfl ?_
                  cases h
                  exact hjj_24
                · skip
                  refine ii_lload 6 dX12_plan_178 rfl ?_
                  refine ii_lload 4 dX12_plan_180 rfl ?_
                  refine ii_lcmp_le (tgt := 194) h dX12_plan_182 dX12_plan_183 (by decide) (fun h => ?_) (fun h => ?_)
                  · skip
                    refine ii_lv [0, 1, 2, 3, 4, 5] rfl ?_
                    cases h
                    exact hjj_24
                  · skip
                    refine ii_iload 5 dX12_plan_186 rfl ?_
                    refine ii_istore (lv' := [(4, .int s_9.2.2), (0, .ref a_this), (2, .int p1), (3, .int x_5.1), (5, .long s_9.2.1), (7, .int s_9.2.2), (8, .long x_12.1)]) dX12_plan_188 (by decide) rfl ?_
                    refine ii_lload 6 dX12_plan_190 rfl ?_
                    refine ii_lstore (lv' := [(5, .long x_12.1), (4, .int s_9.2.2), (0, .ref a_this), (2, .int p1), (3, .int x_5.1), (7, .int s_9.2.2), (8, .long x_12.1)]) dX12_plan_192 (by decide) rfl ?_
                    refine ii_lv [2, 3, 4, 1, 0, 5] rfl ?_
                    cases h
                    exact hjj_24
            · skip
              refine ii_iload 7 dX12_plan_79 rfl ?_
              refine ii_iconst dX12_plan_81 kc3 ?_
              refine ii_icmp_ge (tgt := 173) h dX12_plan_82 (by decide) (fun h => ?_) (fun h => ?_)
              · skip
                refine ii_lv [0, 1, 2, 3, 4, 5, 6] rfl ?_
                cases h
                exact hx_11 (s_11.1, s_11.2) (hr_11 _ rfl)
              · skip
                refine ii_lconst dX12_plan_85 kl0 ?_
                refine ii_lstore (lv' := [(11, .long (0 : Int64)), (0, .ref a_this), (2, .int p1), (3, .int x_5.1), (4, .int s_9.1), (5, .long s_9.2.1), (7, .int s_9.2.2), (8, .long s_11.1), (10, .int s_11.2)]) dX12_plan_86 (by decide) rfl ?_
                refine ii_iload 6 dX12_plan_88 rfl ?_
                refine ii_istore (lv' := [(13, .int s_9.2.2), (11, .long (0 : Int64)), (0, .ref a_this), (2, .int p1), (3, .int x_5.1), (4, .int s_9.1), (5, .long s_9.2.1), (7, .int s_9.2.2), (8, .long s_11.1), (10, .int s_11.2)]) dX12_plan_90 (by decide) rfl ?_
                refine ii_aload_n 2 dX12_plan_92 rfl ?_
                refine ii_get (C := RX12) (T := TX12) (N := 25) (ci := 12) izX12 0 rfl rfl 0 (by decide) kX12_7 rfl dX12_plan_93 ?_
                refine ii_bipush dX12_plan_96 kb10 ?_
                refine ii_iald h 3 0 rfl rfl dX12_plan_98 (fun t_13 h => ?_)
                refine ii_iconst dX12_plan_99 kc1 ?_
                refine ii_isub dX12_plan_100 ?_
                refine ii_topI h (fun x_14 h => ?_)
                refine ii_istore (lv' := [(14, .int x_14), (13, .int s_9.2.2), (11, .long (0 : Int64)), (0, .ref a_this), (2, .int p1), (3, .int x_5.1), (4, .int s_9.1), (5, .long s_9.2.1), (7, .int s_9.2.2), (8, .long s_11.1), (10, .int s_11.2)]) dX12_plan_101 (by decide) rfl ?_
                refine ii_lv [3, 4, 5, 6, 7, 8, 9, 10, 2, 1, 0] rfl ?_
                obtain ⟨x_16, hl_15, h⟩ := bnd h
                refine ii_loopX (fun s_15 => [(a_this, .inr (12, [.ref a_this_st, .ref a_this_images, .ref a_this_isKept, .long v_this_above, .long v_this_below, .int c_3.2.2.2.1, .ref a_this_step, .ref a_this_with, .int c_3.2.2.2.2.2.1, .ref a_this_waits, .ref a_this_value, .ref a_this_given, .ref a_this_net, .ref a_this_together, .ref a_this_most, .ref a_this_owes, .ref a_this_can, .ref a_this_row, .ref a_this_before, .ref a_this_to, .ref a_this_on, .ref a_this_load, .ref a_this_lead, .ref a_this_bestLead, .ref a_this_silver])), (a_this_given, .inl (cJ, 5, .inr (.inl c_3.1))), (a_this_silver, .inl (cJ, 54, .inr (.inl c_3.2.1))), (a_this_st, .inl (cI, 1951, .inl v_this_st)), (a_this_step, .inl (cI, 70, .inl c_3.2.2.1)), (a_this_value, .inl (cJ, 70, .inr (.inl c_3.2.2.2.2.1))), (a_this_waits, .inl (cI, 70, .inl c_3.2.2.2.2.2.2.1)), (a_this_with, .inl (cI, 70, .inl c_3.2.2.2.2.2.2.2))]) (fun s_15 => [(0, .ref a_this), (2, .int p1), (3, .int x_5.1), (4, .int s_9.1), (5, .long s_9.2.1), (7, .int s_9.2.2), (8, .long s_11.1), (10, .int s_11.2), (11, .long s_15.1), (13, .int s_15.2.1), (14, .int s_15.2.2)]) (fun x_16 => [(a_this, .inr (12, [.ref a_this_st, .ref a_this_images, .ref a_this_isKept, .long v_this_above, .long v_this_below, .int c_3.2.2.2.1, .ref a_this_step, .ref a_this_with, .int c_3.2.2.2.2.2.1, .ref a_this_waits, .ref a_this_value, .ref a_this_given, .ref a_this_net, .ref a_this_together, .ref a_this_most, .ref a_this_owes, .ref a_this_can, .ref a_this_row, .ref a_this_before, .ref a_this_to, .ref a_this_on, .ref a_this_load, .ref a_this_lead, .ref a_this_bestLead, .ref a_this_silver])), (a_this_given, .inl (cJ, 5, .inr (.inl c_3.1))), (a_this_silver, .inl (cJ, 54, .inr (.inl c_3.2.1))), (a_this_st, .inl (cI, 1951, .inl v_this_st)), (a_this_step, .inl (cI, 70, .inl c_3.2.2.1)), (a_this_value, .inl (cJ, 70, .inr (.inl c_3.2.2.2.2.1))), (a_this_waits, .inl (cI, 70, .inl c_3.2.2.2.2.2.2.1)), (a_this_with, .inl (cI, 70, .inl c_3.2.2.2.2.2.2.2))]) (fun x_16 => [(0, .ref a_this), (2, .int p1), (3, .int x_5.1), (4, .int s_9.1), (5, .long s_9.2.1), (7, .int s_9.2.2), (8, .long s_11.1), (10, .int s_11.2), (11, .long x_16.1)]) 145 hl_15 rfl rfl ?_ (fun s_15 o h hb_15 hr_15 hx_15 => ?_)
                · skip
                  refine ii_iload 7 dX12_plan_145 rfl ?_
                  refine ii_jn h (fun j_22 => [(a_this, .inr (12, [.ref a_this_st, .ref a_this_images, .ref a_this_isKept, .long v_this_above, .long v_this_below, .int c_3.2.2.2.1, .ref a_this_step, .ref a_this_with, .int c_3.2.2.2.2.2.1, .ref a_this_waits, .ref a_this_value, .ref a_this_given, .ref a_this_net, .ref a_this_together, .ref a_this_most, .ref a_this_owes, .ref a_this_can, .ref a_this_row, .ref a_this_before, .ref a_this_to, .ref a_this_on, .ref a_this_load, .ref a_this_lead, .ref a_this_bestLead, .ref a_this_silver])), (a_this_given, .inl (cJ, 5, .inr (.inl c_3.1))), (a_this_silver, .inl (cJ, 54, .inr (.inl c_3.2.1))), (a_this_st, .inl (cI, 1951, .inl v_this_st)), (a_this_step, .inl (cI, 70, .inl c_3.2.2.1)), (a_this_value, .inl (cJ, 70, .inr (.inl c_3.2.2.2.2.1))), (a_this_waits, .inl (cI, 70, .inl c_3.2.2.2.2.2.2.1)), (a_this_with, .inl (cI, 70, .inl c_3.2.2.2.2.2.2.2))]) (fun j_22 => [(0, .ref a_this), (2, .int p1), (3, .int x_5.1), (4, .int s_9.1), (5, .long s_9.2.1), (7, .int s_9.2.2), (10, .int s_11.2)]) 165 (fun j_22 => [.long j_22]) (fun j_22 h => ?_) (fun j_22 h hjj_22 => ?_)
                  · skip
                    refine ii_lstore (lv' := [(8, .long j_22), (0, .ref a_this), (2, .int p1), (3, .int x_5.1), (4, .int s_9.1), (5, .long s_9.2.1), (7, .int s_9.2.2), (10, .int s_11.2)]) dX12_plan_165 (by decide) rfl ?_
                    refine ii_iinc (fun x_23 => [(10, .int x_23), (8, .long j_22), (0, .ref a_this), (2, .int p1), (3, .int x_5.1), (4, .int s_9.1), (5, .long s_9.2.1), (7, .int s_9.2.2)]) h 7 dX12_plan_167 rfl kc1 (by decide) (fun _ => rfl) (fun x_23 h => ?_)
                    refine ii_goto (tgt := 79) dX12_plan_170 (by decide) ?_
                    refine ii_lv [2, 3, 4, 5, 6, 7, 1, 0] rfl ?_
                    cases h
                    exact hb_11 (j_22, x_23) rfl
                  · skip
                    refine ii_if_eq (tgt := 158) h dX12_plan_147 (by decide) (fun h => ?_) (fun h => ?_)
                    · skip
                      refine ii_lload 8 dX12_plan_158 rfl ?_
                      refine ii_goto (tgt := 165) dX12_plan_160 (by decide) ?_
                      refine ii_lv [0, 1, 2, 3, 4, 5, 7] rfl ?_
                      cases h
                      exact hjj_22
                    · skip
                      refine ii_lload 8 dX12_plan_150 rfl ?_
                      refine ii_lload 6 dX12_plan_152 rfl ?_
                      refine ii_lcmp_ge (tgt := 163) h dX12_plan_154 dX12_plan_155 (by decide) (fun h => ?_) (fun h => ?_)
                      · skip
                        refine ii_lload 6 dX12_plan_163 rfl ?_
                        refine ii_lv [0, 1, 2, 3, 4, 5, 7] rfl ?_
                        cases h
                        exact hjj_22
                      · skip
                        refine ii_lload 8 dX12_plan_158 rfl ?_
                        refine ii_goto (tgt := 165) dX12_plan_160 (by decide) ?_
                        refine ii_lv [0, 1, 2, 3, 4, 5, 7] rfl ?_
                        cases h
                        exact hjj_22
                · skip
                  refine ii_iload 10 dX12_plan_103 rfl ?_
                  refine ii_if_lt (tgt := 145) h dX12_plan_105 (by decide) (fun h => ?_) (fun h => ?_)
                  · skip
                    refine ii_lv [0, 1, 2, 3, 4, 5, 6, 7, 8] rfl ?_
                    cases h
                    exact hx_15 (s_15.1, s_15.2.1, s_15.2.2) (hr_15 _ rfl)
                  · skip
                    refine ii_lload 8 dX12_plan_108 rfl ?_
                    refine ii_aload_n 0 dX12_plan_110 rfl ?_
                    refine ii_get (C := RX12) (T := TX12) (N := 25) (ci := 12) izX12 0 rfl rfl 24 (by decide) kX12_72 rfl dX12_plan_111 ?_
                    refine ii_bipush dX12_plan_114 kb9 ?_
                    refine ii_iload 10 dX12_plan_116 rfl ?_
                    refine ii_imul dX12_plan_118 ?_
                    refine ii_iconst dX12_plan_119 kc3 ?_
                    refine ii_iload 9 dX12_plan_120 rfl ?_
                    refine ii_iconst dX12_plan_122 kc3 ?_
                    refine ii_irem h dX12_plan_123 (fun t_17 h => ?_)
                    refine ii_imul dX12_plan_124 ?_
                    refine ii_iadd dX12_plan_125 ?_
                    refine ii_iload 7 dX12_plan_126 rfl ?_
                    refine ii_iadd dX12_plan_128 ?_
                    refine ii_lald h 2 1 rfl rfl dX12_plan_129 (fun t_18 h => ?_)
                    refine ii_ladd dX12_plan_130 ?_
                    refine ii_topL h (fun x_19 h => ?_)
                    refine ii_lstore (lv' := [(11, .long x_19), (0, .ref a_this), (2, .int p1), (3, .int x_5.1), (4, .int s_9.1), (5, .long s_9.2.1), (7, .int s_9.2.2), (8, .long s_11.1), (10, .int s_11.2), (13, .int s_15.2.1), (14, .int s_15.2.2)]) dX12_plan_131 (by decide) rfl ?_
                    refine ii_iload 9 dX12_plan_133 rfl ?_
                    refine ii_iconst dX12_plan_135 kc3 ?_
                    refine ii_idiv h dX12_plan_136 (fun t_20 h => ?_)
                    refine ii_istore (lv' := [(13, .int t_20), (11, .long x_19), (0, .ref a_this), (2, .int p1), (3, .int x_5.1), (4, .int s_9.1), (5, .long s_9.2.1), (7, .int s_9.2.2), (8, .long s_11.1), (10, .int s_11.2), (14, .int s_15.2.2)]) dX12_plan_137 (by decide) rfl ?_
                    refine ii_iinc (fun x_21 => [(14, .int x_21), (13, .int t_20), (11, .long x_19), (0, .ref a_this), (2, .int p1), (3, .int x_5.1), (4, .int s_9.1), (5, .long s_9.2.1), (7, .int s_9.2.2), (8, .long s_11.1), (10, .int s_11.2)]) h 10 dX12_plan_139 rfl kcm1 (by decide) (fun _ => rfl) (fun x_21 h => ?_)
                    refine ii_goto (tgt := 103) dX12_plan_142 (by decide) ?_
                    refine ii_lv [3, 4, 5, 6, 7, 8, 9, 10, 2, 1, 0] rfl ?_
                    cases h
                    exact hb_15 (x_19, t_20, x_21) rfl
      · skip
        refine ii_iload 3 dX12_plan_36 rfl ?_
        refine ii_aload_n 0 dX12_plan_38 rfl ?_
        refine ii_get (C := RX12) (T := TX12) (N := 25) (ci := 12) izX12 0 rfl rfl 0 (by decide) kX12_7 rfl dX12_plan_39 ?_
        refine ii_bipush dX12_plan_42 kb10 ?_
        refine ii_iald h 3 0 rfl rfl dX12_plan_44 (fun t_6 h => ?_)
        refine ii_icmp_ge (tgt := 58) h dX12_plan_45 (by decide) (fun h => ?_) (fun h => ?_)
        · skip
          refine ii_lv [0, 1, 2] rfl ?_
          cases h
          exact hx_4 (s_4.1, s_4.2) (hr_4 _ rfl)
        · skip
          refine ii_iload_n 2 dX12_plan_48 rfl ?_
          refine ii_iconst dX12_plan_49 kc3 ?_
          refine ii_imul dX12_plan_50 ?_
          refine ii_topI h (fun x_7 h => ?_)
          refine ii_istore_n (lv' := [(3, .int x_7), (0, .ref a_this), (2, .int p1), (4, .int s_4.2)]) dX12_plan_51 rfl (by decide) rfl ?_
          refine ii_iinc (fun x_8 => [(4, .int x_8), (3, .int x_7), (0, .ref a_this), (2, .int p1)]) h 3 dX12_plan_52 rfl kc1 (by decide) (fun _ => rfl) (fun x_8 h => ?_)
          refine ii_goto (tgt := 36) dX12_plan_55 (by decide) ?_
          refine ii_lv [2, 3, 1, 0] rfl ?_
          cases h
          exact hb_4 (x_7, x_8) rfl
    · skip
      refine ii_icmp_eq (tgt := 26) h dX12_plan_9 (by decide) (fun h => ?_) (fun h => ?_)
      · skip
        exact hjv_2 () h
      · skip
        refine ii_aload_n 0 dX12_plan_12 rfl ?_
        refine ii_bipush dX12_plan_13 kb10 ?_
        refine ii_iload_n 2 dX12_plan_15 rfl ?_
        obtain ⟨c_34, hc_34, h⟩ := bnd h
        refine ii_callVi (As := [.int (10 : Int32), .int p1]) (ws' := [(a_this, .inr (12, [.ref a_this_st, .ref a_this_images, .ref a_this_isKept, .long v_this_above, .long v_this_below, .int v_this_steps, .ref a_this_step, .ref a_this_with, .int v_this_waiting, .ref a_this_waits, .ref a_this_value, .ref a_this_given, .ref a_this_net, .ref a_this_together, .ref a_this_most, .ref a_this_owes, .ref a_this_can, .ref a_this_row, .ref a_this_before, .ref a_this_to, .ref a_this_on, .ref a_this_load, .ref a_this_lead, .ref a_this_bestLead, .ref a_this_silver])), (a_this_given, .inl (cJ, 5, .inr (.inl v_this_given))), (a_this_silver, .inl (cJ, 54, .inr (.inl v_this_silver))), (a_this_st, .inl (cI, 1951, .inl v_this_st)), (a_this_step, .inl (cI, 70, .inl v_this_step)), (a_this_value, .inl (cJ, 70, .inr (.inl v_this_value))), (a_this_waits, .inl (cI, 70, .inl v_this_waits)), (a_this_with, .inl (cI, 70, .inl v_this_with))]) (st := []) (c_X12_is l D cI cJ cZ cH a_this a_this_before a_this_bestLead a_this_can a_this_given a_this_images a_this_isKept a_this_lead a_this_load a_this_most a_this_net a_this_on a_this_owes a_this_row a_this_silver a_this_st a_this_step a_this_to a_this_together a_this_value a_this_waits a_this_with v_this_above v_this_below v_this_st v_this_steps v_this_waiting (10 : Int32) p1 hc_34) gzX12_173 rfl rfl rfl eV_X12_is ⟨Nat.le_of_ble_eq_true rfl, Nat.le_of_ble_eq_true rfl⟩ rfl 0 rfl rfl [0, 3] rfl rfl rfl rfl rfl (Nat.le_of_ble_eq_true rfl) (Nat.le_refl _) (Nat.le_refl _) rfl dX12_plan_16 ?_
        refine ii_if_ne (tgt := 26) h dX12_plan_19 (by decide) (fun h => ?_) (fun h => ?_)
        · skip
          exact hjv_2 () h
        · skip
          refine ii_ldc2 (v := -9000000000000000000) dX12_plan_22 kX12_237 ?_
          cases h
          exact hQ _ _ dX12_plan_25
set_option maxHeartbeats 4000000 in
set_option maxRecDepth 100000 in
theorem c_X12_part (l : Launch) (D : va_G) (cI cJ cZ cH : ClassId) (a_this a_this_before a_this_bestLead a_this_can a_this_given a_this_images a_this_isKept a_this_lead a_this_load a_this_most a_this_net a_this_on a_this_owes a_this_row a_this_silver a_this_st a_this_step a_this_to a_this_together a_this_value a_this_waits a_this_with : Nat) (v_this_above : Int64) (v_this_below : Int64) (v_this_steps : Int32) (v_this_waiting : Int32) (p0 : Int32) {res : Int64} (h : F_X12_part v_this_above v_this_below p0 = some res) : CTl l yX12_part wzX12_part { frames := 0, cells := 0, slots := 0, locals := 0 } D [(cI, .int), (cJ, .long), (cZ, .boolean), (cH, .object "TinHouse$House")] [.ref a_this, .int p0] [(a_this, .inr (12, [.ref a_this_st, .ref a_this_images, .ref a_this_isKept, .long v_this_above, .long v_this_below, .int v_this_steps, .ref a_this_step, .ref a_this_with, .int v_this_waiting, .ref a_this_waits, .ref a_this_value, .ref a_this_given, .ref a_this_net, .ref a_this_together, .ref a_this_most, .ref a_this_owes, .ref a_this_can, .ref a_this_row, .ref a_this_before, .ref a_this_to, .ref a_this_on, .ref a_this_load, .ref a_this_lead, .ref a_this_bestLead, .ref a_this_silver]))] res [(a_this, .inr (12, [.ref a_this_st, .ref a_this_images, .ref a_this_isKept, .long v_this_above, .long v_this_below, .int v_this_steps, .ref a_this_step, .ref a_this_with, .int v_this_waiting, .ref a_this_waits, .ref a_this_value, .ref a_this_given, .ref a_this_net, .ref a_this_together, .ref a_this_most, .ref a_this_owes, .ref a_this_can, .ref a_this_row, .ref a_this_before, .ref a_this_to, .ref a_this_on, .ref a_this_load, .ref a_this_lead, .ref a_this_bestLead, .ref a_this_silver]))] := by
  unfold F_X12_part at h
  refine ii_metL (own := RX12) (lv0 := [(0, .ref a_this), (1, .int p0)]) (by decide) rfl rfl rfl (Nat.le_of_ble_eq_true rfl) (fun {p e s m args below meth c A Q} hQ => ?_)
  refine ii_iload_n 1 dX12_part_0 rfl ?_
  refine ii_jn h (fun j_1 => [(a_this, .inr (12, [.ref a_this_st, .ref a_this_images, .ref a_this_isKept, .long v_this_above, .long v_this_below, .int v_this_steps, .ref a_this_step, .ref a_this_with, .int v_this_waiting, .ref a_this_waits, .ref a_this_value, .ref a_this_given, .ref a_this_net, .ref a_this_together, .ref a_this_most, .ref a_this_owes, .ref a_this_can, .ref a_this_row, .ref a_this_before, .ref a_this_to, .ref a_this_on, .ref a_this_load, .ref a_this_lead, .ref a_this_bestLead, .ref a_this_silver]))]) (fun j_1 => []) 26 (fun j_1 => [.long j_1]) (fun j_1 h => ?_) (fun j_1 h hjj_1 => ?_)
  · skip
    cases h
    exact hQ _ _ dX12_part_26
  · skip
    refine ii_if_ne (tgt := 11) h dX12_part_1 (by decide) (fun h => ?_) (fun h => ?_)
    · skip
      refine ii_iload_n 1 dX12_part_11 rfl ?_
      refine ii_iconst dX12_part_12 kc1 ?_
      refine ii_icmp_ne (tgt := 23) h dX12_part_13 (by decide) (fun h => ?_) (fun h => ?_)
      · skip
        refine ii_ldc2 (v := -1) dX12_part_23 kX12_268 ?_
        refine ii_lv [] rfl ?_
        cases h
        exact hjj_1
      · skip
        refine ii_aload_n 0 dX12_part_16 rfl ?_
        refine ii_get (C := RX12) (T := TX12) (N := 25) (ci := 12) izX12 0 rfl rfl 4 (by decide) kX12_75 rfl dX12_part_17 ?_
        refine ii_goto (tgt := 26) dX12_part_20 (by decide) ?_
        refine ii_lv [] rfl ?_
        cases h
        exact hjj_1
    · skip
      refine ii_aload_n 0 dX12_part_4 rfl ?_
      refine ii_get (C := RX12) (T := TX12) (N := 25) (ci := 12) izX12 0 rfl rfl 3 (by decide) kX12_227 rfl dX12_part_5 ?_
      refine ii_goto (tgt := 26) dX12_part_8 (by decide) ?_
      refine ii_lv [] rfl ?_
      cases h
      exact hjj_1
set_option maxHeartbeats 4000000 in
set_option maxRecDepth 100000 in
theorem c_X12_image (l : Launch) (D : va_G) (cI cJ cZ cH : ClassId) (a_this a_this_before a_this_bestLead a_this_can a_this_given a_this_images a_this_isKept a_this_lead a_this_load a_this_most a_this_net a_this_on a_this_owes a_this_row a_this_silver a_this_st a_this_step a_this_to a_this_together a_this_value a_this_waits a_this_with : Nat) (v_this_above : Int64) (v_this_below : Int64) (v_this_images : Nat → Int32) (v_this_isKept : Nat → Int32) (v_this_st : Nat → Int32) (v_this_steps : Int32) (v_this_waiting : Int32) (p0 : Int32) {res : Int32 × (Nat → Int32) × (Nat → Int32)} (h : F_X12_image v_this_images v_this_isKept v_this_st p0 = some res) : CTi l yX12_image wzX12_image { frames := 1, cells := 0, slots := 0, locals := 25 } D [(cI, .int), (cJ, .long), (cZ, .boolean), (cH, .object "TinHouse$House")] [.ref a_this, .int p0] [(a_this, .inr (12, [.ref a_this_st, .ref a_this_images, .ref a_this_isKept, .long v_this_above, .long v_this_below, .int v_this_steps, .ref a_this_step, .ref a_this_with, .int v_this_waiting, .ref a_this_waits, .ref a_this_value, .ref a_this_given, .ref a_this_net, .ref a_this_together, .ref a_this_most, .ref a_this_owes, .ref a_this_can, .ref a_this_row, .ref a_this_before, .ref a_this_to, .ref a_this_on, .ref a_this_load, .ref a_this_lead, .ref a_this_bestLead, .ref a_this_silver])), (a_this_images, .inl (cI, 3902, .inl v_this_images)), (a_this_isKept, .inl (cZ, 2, .inl v_this_isKept)), (a_this_st, .inl (cI, 1951, .inl v_this_st))] res.1 [(a_this, .inr (12, [.ref a_this_st, .ref a_this_images, .ref a_this_isKept, .long v_this_above, .long v_this_below, .int v_this_steps, .ref a_this_step, .ref a_this_with, .int v_this_waiting, .ref a_this_waits, .ref a_this_value, .ref a_this_given, .ref a_this_net, .ref a_this_together, .ref a_this_most, .ref a_this_owes, .ref a_this_can, .ref a_this_row, .ref a_this_before, .ref a_this_to, .ref a_this_on, .ref a_this_load, .ref a_this_lead, .ref a_this_bestLead, .ref a_this_silver])), (a_this_images, .inl (cI, 3902, .inl res.2.1)), (a_this_isKept, .inl (cZ, 2, .inl res.2.2)), (a_this_st, .inl (cI, 1951, .inl v_this_st))] := by
  unfold F_X12_image at h
  refine ii_metI (own := RX12) (lv0 := [(0, .ref a_this), (1, .int p0)]) (by decide) rfl rfl rfl (Nat.le_of_ble_eq_true rfl) (fun {p e s m args below meth c A Q} hQ => ?_)
  refine ii_iload_n 1 dX12_image_0 rfl ?_
  refine ii_i2l dX12_image_1 ?_
  refine ii_lconst dX12_image_2 kl0 ?_
  refine ii_lconst dX12_image_3 kl1 ?_
  obtain ⟨c_1, hc_1, h⟩ := bnd h
  refine ii_callSi (As := [.long p0.toInt64, .long (0 : Int64), .long (1 : Int64)]) (ws' := [(a_this, .inr (12, [.ref a_this_st, .ref a_this_images, .ref a_this_isKept, .long v_this_above, .long v_this_below, .int v_this_steps, .ref a_this_step, .ref a_this_with, .int v_this_waiting, .ref a_this_waits, .ref a_this_value, .ref a_this_given, .ref a_this_net, .ref a_this_together, .ref a_this_most, .ref a_this_owes, .ref a_this_can, .ref a_this_row, .ref a_this_before, .ref a_this_to, .ref a_this_on, .ref a_this_load, .ref a_this_lead, .ref a_this_bestLead, .ref a_this_silver])), (a_this_images, .inl (cI, 3902, .inl v_this_images)), (a_this_isKept, .inl (cZ, 2, .inl v_this_isKept)), (a_this_st, .inl (cI, 1951, .inl v_this_st))]) (st := []) (c_X12_in l D cI cJ cZ cH p0.toInt64 (0 : Int64) (1 : Int64) hc_1) gzX12_79 rfl rfl rfl eS_X12_in ⟨Nat.le_of_ble_eq_true rfl, Nat.le_of_ble_eq_true rfl⟩ rfl [] rfl rfl rfl rfl rfl (Nat.le_of_ble_eq_true rfl) (Nat.le_refl _) (Nat.le_refl _) rfl dX12_image_4 ?_
  refine ii_if_ne (tgt := 13) h dX12_image_7 (by decide) (fun h => ?_) (fun h => ?_)
  · skip
    refine ii_aload_n 0 dX12_image_13 rfl ?_
    refine ii_get (C := RX12) (T := TX12) (N := 25) (ci := 12) izX12 0 rfl rfl 2 (by decide) kX12_16 rfl dX12_image_14 ?_
    refine ii_iload_n 1 dX12_image_17 rfl ?_
    refine ii_iconst dX12_image_18 kc1 ?_
    refine ii_zast (fun g_2 => [(a_this, .inr (12, [.ref a_this_st, .ref a_this_images, .ref a_this_isKept, .long v_this_above, .long v_this_below, .int v_this_steps, .ref a_this_step, .ref a_this_with, .int v_this_waiting, .ref a_this_waits, .ref a_this_value, .ref a_this_given, .ref a_this_net, .ref a_this_together, .ref a_this_most, .ref a_this_owes, .ref a_this_can, .ref a_this_row, .ref a_this_before, .ref a_this_to, .ref a_this_on, .ref a_this_load, .ref a_this_lead, .ref a_this_bestLead, .ref a_this_silver])), (a_this_images, .inl (cI, 3902, .inl v_this_images)), (a_this_isKept, .inl (cZ, 2, .inl g_2)), (a_this_st, .inl (cI, 1951, .inl v_this_st))]) h 2 2 rfl rfl dX12_image_19 (fun _ => rfl) (fun g_2 h => ?_)
    refine ii_iconst dX12_image_20 kc0 ?_
    refine ii_istore_n (lv' := [(2, .int (0 : Int32)), (0, .ref a_this), (1, .int p0)]) dX12_image_21 rfl (by decide) rfl ?_
    refine ii_lv [1, 2, 0] rfl ?_
    obtain ⟨x_4, hl_3, h⟩ := bnd h
    refine ii_loopX (fun s_3 => [(a_this, .inr (12, [.ref a_this_st, .ref a_this_images, .ref a_this_isKept, .long v_this_above, .long v_this_below, .int v_this_steps, .ref a_this_step, .ref a_this_with, .int v_this_waiting, .ref a_this_waits, .ref a_this_value, .ref a_this_given, .ref a_this_net, .ref a_this_together, .ref a_this_most, .ref a_this_owes, .ref a_this_can, .ref a_this_row, .ref a_this_before, .ref a_this_to, .ref a_this_on, .ref a_this_load, .ref a_this_lead, .ref a_this_bestLead, .ref a_this_silver])), (a_this_images, .inl (cI, 3902, .inl s_3.2)), (a_this_isKept, .inl (cZ, 2, .inl g_2)), (a_this_st, .inl (cI, 1951, .inl v_this_st))]) (fun s_3 => [(0, .ref a_this), (1, .int p0), (2, .int s_3.1)]) (fun x_4 => [(a_this, .inr (12, [.ref a_this_st, .ref a_this_images, .ref a_this_isKept, .long v_this_above, .long v_this_below, .int v_this_steps, .ref a_this_step, .ref a_this_with, .int v_this_waiting, .ref a_this_waits, .ref a_this_value, .ref a_this_given, .ref a_this_net, .ref a_this_together, .ref a_this_most, .ref a_this_owes, .ref a_this_can, .ref a_this_row, .ref a_this_before, .ref a_this_to, .ref a_this_on, .ref a_this_load, .ref a_this_lead, .ref a_this_bestLead, .ref a_this_silver])), (a_this_images, .inl (cI, 3902, .inl x_4.2)), (a_this_isKept, .inl (cZ, 2, .inl g_2)), (a_this_st, .inl (cI, 1951, .inl v_this_st))]) (fun x_4 => []) 53 hl_3 rfl rfl ?_ (fun s_3 o h hb_3 hr_3 hx_3 => ?_)
    · skip
      refine ii_iconst dX12_image_53 kc1 ?_
      cases h
      exact hQ _ _ dX12_image_54
    · skip
      refine ii_iload_n 2 dX12_image_22 rfl ?_
      refine ii_sipush dX12_image_23 ks1951 ?_
      refine ii_icmp_ge (tgt := 53) h dX12_image_26 (by decide) (fun h => ?_) (fun h => ?_)
      · skip
        refine ii_lv [] rfl ?_
        cases h
        exact hx_3 (s_3.1, s_3.2) (hr_3 _ rfl)
      · skip
        refine ii_aload_n 0 dX12_image_29 rfl ?_
        refine ii_get (C := RX12) (T := TX12) (N := 25) (ci := 12) izX12 0 rfl rfl 1 (by decide) kX12_13 rfl dX12_image_30 ?_
        refine ii_sipush dX12_image_33 ks1951 ?_
        refine ii_iload_n 1 dX12_image_36 rfl ?_
        refine ii_imul dX12_image_37 ?_
        refine ii_iload_n 2 dX12_image_38 rfl ?_
        refine ii_iadd dX12_image_39 ?_
        refine ii_aload_n 0 dX12_image_40 rfl ?_
        refine ii_get (C := RX12) (T := TX12) (N := 25) (ci := 12) izX12 0 rfl rfl 0 (by decide) kX12_7 rfl dX12_image_41 ?_
        refine ii_iload_n 2 dX12_image_44 rfl ?_
        refine ii_iald h 3 0 rfl rfl dX12_image_45 (fun t_5 h => ?_)
        refine ii_iast (fun g_6 => [(a_this, .inr (12, [.ref a_this_st, .ref a_this_images, .ref a_this_isKept, .long v_this_above, .long v_this_below, .int v_this_steps, .ref a_this_step, .ref a_this_with, .int v_this_waiting, .ref a_this_waits, .ref a_this_value, .ref a_this_given, .ref a_this_net, .ref a_this_together, .ref a_this_most, .ref a_this_owes, .ref a_this_can, .ref a_this_row, .ref a_this_before, .ref a_this_to, .ref a_this_on, .ref a_this_load, .ref a_this_lead, .ref a_this_bestLead, .ref a_this_silver])), (a_this_images, .inl (cI, 3902, .inl g_6)), (a_this_isKept, .inl (cZ, 2, .inl g_2)), (a_this_st, .inl (cI, 1951, .inl v_this_st))]) h 1 0 rfl rfl dX12_image_46 (fun _ => rfl) (fun g_6 h => ?_)
        refine ii_iinc (fun x_7 => [(2, .int x_7), (0, .ref a_this), (1, .int p0)]) h 2 dX12_image_47 rfl kc1 (by decide) (fun _ => rfl) (fun x_7 h => ?_)
        refine ii_goto (tgt := 22) dX12_image_50 (by decide) ?_
        refine ii_lv [1, 2, 0] rfl ?_
        cases h
        exact hb_3 (x_7, g_6) rfl
  · skip
    refine ii_bipush dX12_image_10 kbm2 ?_
    cases h
    exact hQ _ _ dX12_image_12
set_option maxHeartbeats 4000000 in
set_option maxRecDepth 100000 in
theorem c_X12_from (l : Launch) (D : va_G) (cI cJ cZ cH : ClassId) (a_this a_this_before a_this_bestLead a_this_can a_this_given a_this_images a_this_isKept a_this_lead a_this_load a_this_most a_this_net a_this_on a_this_owes a_this_row a_this_silver a_this_st a_this_step a_this_to a_this_together a_this_value a_this_waits a_this_with : Nat) (v_this_above : Int64) (v_this_below : Int64) (v_this_images : Nat → Int32) (v_this_isKept : Nat → Int32) (v_this_st : Nat → Int32) (v_this_steps : Int32) (v_this_waiting : Int32) (p0 : Int32) {res : Int32 × (Nat → Int32)} (h : F_X12_from v_this_images v_this_isKept v_this_st p0 = some res) : CTi l yX12_from wzX12_from { frames := 1, cells := 0, slots := 0, locals := 25 } D [(cI, .int), (cJ, .long), (cZ, .boolean), (cH, .object "TinHouse$House")] [.ref a_this, .int p0] [(a_this, .inr (12, [.ref a_this_st, .ref a_this_images, .ref a_this_isKept, .long v_this_above, .long v_this_below, .int v_this_steps, .ref a_this_step, .ref a_this_with, .int v_this_waiting, .ref a_this_waits, .ref a_this_value, .ref a_this_given, .ref a_this_net, .ref a_this_together, .ref a_this_most, .ref a_this_owes, .ref a_this_can, .ref a_this_row, .ref a_this_before, .ref a_this_to, .ref a_this_on, .ref a_this_load, .ref a_this_lead, .ref a_this_bestLead, .ref a_this_silver])), (a_this_images, .inl (cI, 3902, .inl v_this_images)), (a_this_isKept, .inl (cZ, 2, .inl v_this_isKept)), (a_this_st, .inl (cI, 1951, .inl v_this_st))] res.1 [(a_this, .inr (12, [.ref a_this_st, .ref a_this_images, .ref a_this_isKept, .long v_this_above, .long v_this_below, .int v_this_steps, .ref a_this_step, .ref a_this_with, .int v_this_waiting, .ref a_this_waits, .ref a_this_value, .ref a_this_given, .ref a_this_net, .ref a_this_together, .ref a_this_most, .ref a_this_owes, .ref a_this_can, .ref a_this_row, .ref a_this_before, .ref a_this_to, .ref a_this_on, .ref a_this_load, .ref a_this_lead, .ref a_this_bestLead, .ref a_this_silver])), (a_this_images, .inl (cI, 3902, .inl v_this_images)), (a_this_isKept, .inl (cZ, 2, .inl v_this_isKept)), (a_this_st, .inl (cI, 1951, .inl res.2))] := by
  unfold F_X12_from at h
  refine ii_metI (own := RX12) (lv0 := [(0, .ref a_this), (1, .int p0)]) (by decide) rfl rfl rfl (Nat.le_of_ble_eq_true rfl) (fun {p e s m args below meth c A Q} hQ => ?_)
  refine ii_iload_n 1 dX12_from_0 rfl ?_
  refine ii_i2l dX12_from_1 ?_
  refine ii_lconst dX12_from_2 kl0 ?_
  refine ii_lconst dX12_from_3 kl1 ?_
  obtain ⟨c_1, hc_1, h⟩ := bnd h
  refine ii_callSi (As := [.long p0.toInt64, .long (0 : Int64), .long (1 : Int64)]) (ws' := [(a_this, .inr (12, [.ref a_this_st, .ref a_this_images, .ref a_this_isKept, .long v_this_above, .long v_this_below, .int v_this_steps, .ref a_this_step, .ref a_this_with, .int v_this_waiting, .ref a_this_waits, .ref a_this_value, .ref a_this_given, .ref a_this_net, .ref a_this_together, .ref a_this_most, .ref a_this_owes, .ref a_this_can, .ref a_this_row, .ref a_this_before, .ref a_this_to, .ref a_this_on, .ref a_this_load, .ref a_this_lead, .ref a_this_bestLead, .ref a_this_silver])), (a_this_images, .inl (cI, 3902, .inl v_this_images)), (a_this_isKept, .inl (cZ, 2, .inl v_this_isKept)), (a_this_st, .inl (cI, 1951, .inl v_this_st))]) (st := []) (c_X12_in l D cI cJ cZ cH p0.toInt64 (0 : Int64) (1 : Int64) hc_1) gzX12_79 rfl rfl rfl eS_X12_in ⟨Nat.le_of_ble_eq_true rfl, Nat.le_of_ble_eq_true rfl⟩ rfl [] rfl rfl rfl rfl rfl (Nat.le_of_ble_eq_true rfl) (Nat.le_refl _) (Nat.le_refl _) rfl dX12_from_4 ?_
  refine ii_if_ne (tgt := 13) h dX12_from_7 (by decide) (fun h => ?_) (fun h => ?_)
  · skip
    refine ii_aload_n 0 dX12_from_13 rfl ?_
    refine ii_get (C := RX12) (T := TX12) (N := 25) (ci := 12) izX12 0 rfl rfl 2 (by decide) kX12_16 rfl dX12_from_14 ?_
    refine ii_iload_n 1 dX12_from_17 rfl ?_
    refine ii_zald h 2 2 rfl rfl dX12_from_18 (fun t_2 h => ?_)
    refine ii_if_ne (tgt := 25) h dX12_from_19 (by decide) (fun h => ?_) (fun h => ?_)
    · skip
      refine ii_iconst dX12_from_25 kc0 ?_
      refine ii_istore_n (lv' := [(2, .int (0 : Int32)), (0, .ref a_this), (1, .int p0)]) dX12_from_26 rfl (by decide) rfl ?_
      refine ii_lv [1, 2, 0] rfl ?_
      obtain ⟨x_4, hl_3, h⟩ := bnd h
      refine ii_loopX (fun s_3 => [(a_this, .inr (12, [.ref a_this_st, .ref a_this_images, .ref a_this_isKept, .long v_this_above, .long v_this_below, .int v_this_steps, .ref a_this_step, .ref a_this_with, .int v_this_waiting, .ref a_this_waits, .ref a_this_value, .ref a_this_given, .ref a_this_net, .ref a_this_together, .ref a_this_most, .ref a_this_owes, .ref a_this_can, .ref a_this_row, .ref a_this_before, .ref a_this_to, .ref a_this_on, .ref a_this_load, .ref a_this_lead, .ref a_this_bestLead, .ref a_this_silver])), (a_this_images, .inl (cI, 3902, .inl v_this_images)), (a_this_isKept, .inl (cZ, 2, .inl v_this_isKept)), (a_this_st, .inl (cI, 1951, .inl s_3.2))]) (fun s_3 => [(0, .ref a_this), (1, .int p0), (2, .int s_3.1)]) (fun x_4 => [(a_this, .inr (12, [.ref a_this_st, .ref a_this_images, .ref a_this_isKept, .long v_this_above, .long v_this_below, .int v_this_steps, .ref a_this_step, .ref a_this_with, .int v_this_waiting, .ref a_this_waits, .ref a_this_value, .ref a_this_given, .ref a_this_net, .ref a_this_together, .ref a_this_most, .ref a_this_owes, .ref a_this_can, .ref a_this_row, .ref a_this_before, .ref a_this_to, .ref a_this_on, .ref a_this_load, .ref a_this_lead, .ref a_this_bestLead, .ref a_this_silver])), (a_this_images, .inl (cI, 3902, .inl v_this_images)), (a_this_isKept, .inl (cZ, 2, .inl v_this_isKept)), (a_this_st, .inl (cI, 1951, .inl x_4.2))]) (fun x_4 => []) 58 hl_3 rfl rfl ?_ (fun s_3 o h hb_3 hr_3 hx_3 => ?_)
      · skip
        refine ii_iconst dX12_from_58 kc1 ?_
        cases h
        exact hQ _ _ dX12_from_59
      · skip
        refine ii_iload_n 2 dX12_from_27 rfl ?_
        refine ii_sipush dX12_from_28 ks1951 ?_
        refine ii_icmp_ge (tgt := 58) h dX12_from_31 (by decide) (fun h => ?_) (fun h => ?_)
        · skip
          refine ii_lv [] rfl ?_
          cases h
          exact hx_3 (s_3.1, s_3.2) (hr_3 _ rfl)
        · skip
          refine ii_aload_n 0 dX12_from_34 rfl ?_
          refine ii_get (C := RX12) (T := TX12) (N := 25) (ci := 12) izX12 0 rfl rfl 0 (by decide) kX12_7 rfl dX12_from_35 ?_
          refine ii_iload_n 2 dX12_from_38 rfl ?_
          refine ii_aload_n 0 dX12_from_39 rfl ?_
          refine ii_get (C := RX12) (T := TX12) (N := 25) (ci := 12) izX12 0 rfl rfl 1 (by decide) kX12_13 rfl dX12_from_40 ?_
          refine ii_sipush dX12_from_43 ks1951 ?_
          refine ii_iload_n 1 dX12_from_46 rfl ?_
          refine ii_imul dX12_from_47 ?_
          refine ii_iload_n 2 dX12_from_48 rfl ?_
          refine ii_iadd dX12_from_49 ?_
          refine ii_iald h 1 0 rfl rfl dX12_from_50 (fun t_5 h => ?_)
          refine ii_iast (fun g_6 => [(a_this, .inr (12, [.ref a_this_st, .ref a_this_images, .ref a_this_isKept, .long v_this_above, .long v_this_below, .int v_this_steps, .ref a_this_step, .ref a_this_with, .int v_this_waiting, .ref a_this_waits, .ref a_this_value, .ref a_this_given, .ref a_this_net, .ref a_this_together, .ref a_this_most, .ref a_this_owes, .ref a_this_can, .ref a_this_row, .ref a_this_before, .ref a_this_to, .ref a_this_on, .ref a_this_load, .ref a_this_lead, .ref a_this_bestLead, .ref a_this_silver])), (a_this_images, .inl (cI, 3902, .inl v_this_images)), (a_this_isKept, .inl (cZ, 2, .inl v_this_isKept)), (a_this_st, .inl (cI, 1951, .inl g_6))]) h 3 0 rfl rfl dX12_from_51 (fun _ => rfl) (fun g_6 h => ?_)
          refine ii_iinc (fun x_7 => [(2, .int x_7), (0, .ref a_this), (1, .int p0)]) h 2 dX12_from_52 rfl kc1 (by decide) (fun _ => rfl) (fun x_7 h => ?_)
          refine ii_goto (tgt := 27) dX12_from_55 (by decide) ?_
          refine ii_lv [1, 2, 0] rfl ?_
          cases h
          exact hb_3 (x_7, g_6) rfl
    · skip
      refine ii_bipush dX12_from_22 kbm3 ?_
      cases h
      exact hQ _ _ dX12_from_24
  · skip
    refine ii_bipush dX12_from_10 kbm2 ?_
    cases h
    exact hQ _ _ dX12_from_12
set_option maxHeartbeats 4000000 in
set_option maxRecDepth 100000 in
theorem c_X12_count (l : Launch) (D : va_G) (cI cJ cZ cH : ClassId) (a_this a_this_before a_this_bestLead a_this_can a_this_given a_this_images a_this_isKept a_this_lead a_this_load a_this_most a_this_net a_this_on a_this_owes a_this_row a_this_silver a_this_st a_this_step a_this_to a_this_together a_this_value a_this_waits a_this_with : Nat) (v_this_above : Int64) (v_this_below : Int64) (v_this_st : Nat → Int32) (v_this_steps : Int32) (v_this_waiting : Int32) (p0 : Int32) {res : Int32} (h : F_X12_count v_this_st p0 = some res) : CTi l yX12_count wzX12_count { frames := 1, cells := 0, slots := 0, locals := 25 } D [(cI, .int), (cJ, .long), (cZ, .boolean), (cH, .object "TinHouse$House")] [.ref a_this, .int p0] [(a_this, .inr (12, [.ref a_this_st, .ref a_this_images, .ref a_this_isKept, .long v_this_above, .long v_this_below, .int v_this_steps, .ref a_this_step, .ref a_this_with, .int v_this_waiting, .ref a_this_waits, .ref a_this_value, .ref a_this_given, .ref a_this_net, .ref a_this_together, .ref a_this_most, .ref a_this_owes, .ref a_this_can, .ref a_this_row, .ref a_this_before, .ref a_this_to, .ref a_this_on, .ref a_this_load, .ref a_this_lead, .ref a_this_bestLead, .ref a_this_silver])), (a_this_st, .inl (cI, 1951, .inl v_this_st))] res [(a_this, .inr (12, [.ref a_this_st, .ref a_this_images, .ref a_this_isKept, .long v_this_above, .long v_this_below, .int v_this_steps, .ref a_this_step, .ref a_this_with, .int v_this_waiting, .ref a_this_waits, .ref a_this_value, .ref a_this_given, .ref a_this_net, .ref a_this_together, .ref a_this_most, .ref a_this_owes, .ref a_this_can, .ref a_this_row, .ref a_this_before, .ref a_this_to, .ref a_this_on, .ref a_this_load, .ref a_this_lead, .ref a_this_bestLead, .ref a_this_silver])), (a_this_st, .inl (cI, 1951, .inl v_this_st))] := by
  unfold F_X12_count at h
  refine ii_metI (own := RX12) (lv0 := [(0, .ref a_this), (1, .int p0)]) (by decide) rfl rfl rfl (Nat.le_of_ble_eq_true rfl) (fun {p e s m args below meth c A Q} hQ => ?_)
  refine ii_iload_n 1 dX12_count_0 rfl ?_
  refine ii_i2l dX12_count_1 ?_
  refine ii_lconst dX12_count_2 kl0 ?_
  refine ii_ldc2 (v := 10) dX12_count_3 kX12_294 ?_
  obtain ⟨c_1, hc_1, h⟩ := bnd h
  refine ii_callSi (As := [.long p0.toInt64, .long (0 : Int64), .long (10 : Int64)]) (ws' := [(a_this, .inr (12, [.ref a_this_st, .ref a_this_images, .ref a_this_isKept, .long v_this_above, .long v_this_below, .int v_this_steps, .ref a_this_step, .ref a_this_with, .int v_this_waiting, .ref a_this_waits, .ref a_this_value, .ref a_this_given, .ref a_this_net, .ref a_this_together, .ref a_this_most, .ref a_this_owes, .ref a_this_can, .ref a_this_row, .ref a_this_before, .ref a_this_to, .ref a_this_on, .ref a_this_load, .ref a_this_lead, .ref a_this_bestLead, .ref a_this_silver])), (a_this_st, .inl (cI, 1951, .inl v_this_st))]) (st := []) (c_X12_in l D cI cJ cZ cH p0.toInt64 (0 : Int64) (10 : Int64) hc_1) gzX12_79 rfl rfl rfl eS_X12_in ⟨Nat.le_of_ble_eq_true rfl, Nat.le_of_ble_eq_true rfl⟩ rfl [] rfl rfl rfl rfl rfl (Nat.le_of_ble_eq_true rfl) (Nat.le_refl _) (Nat.le_refl _) rfl dX12_count_6 ?_
  refine ii_jn h (fun j_2 => [(a_this, .inr (12, [.ref a_this_st, .ref a_this_images, .ref a_this_isKept, .long v_this_above, .long v_this_below, .int v_this_steps, .ref a_this_step, .ref a_this_with, .int v_this_waiting, .ref a_this_waits, .ref a_this_value, .ref a_this_given, .ref a_this_net, .ref a_this_together, .ref a_this_most, .ref a_this_owes, .ref a_this_can, .ref a_this_row, .ref a_this_before, .ref a_this_to, .ref a_this_on, .ref a_this_load, .ref a_this_lead, .ref a_this_bestLead, .ref a_this_silver])), (a_this_st, .inl (cI, 1951, .inl v_this_st))]) (fun j_2 => []) 23 (fun j_2 => [.int j_2]) (fun j_2 h => ?_) (fun j_2 h hjj_2 => ?_)
  · skip
    cases h
    exact hQ _ _ dX12_count_23
  · skip
    refine ii_if_eq (tgt := 21) h dX12_count_9 (by decide) (fun h => ?_) (fun h => ?_)
    · skip
      refine ii_bipush dX12_count_21 kbm2 ?_
      refine ii_lv [] rfl ?_
      cases h
      exact hjj_2
    · skip
      refine ii_aload_n 0 dX12_count_12 rfl ?_
      refine ii_get (C := RX12) (T := TX12) (N := 25) (ci := 12) izX12 0 rfl rfl 0 (by decide) kX12_7 rfl dX12_count_13 ?_
      refine ii_iload_n 1 dX12_count_16 rfl ?_
      refine ii_iald h 1 0 rfl rfl dX12_count_17 (fun t_3 h => ?_)
      refine ii_goto (tgt := 23) dX12_count_18 (by decide) ?_
      refine ii_lv [] rfl ?_
      cases h
      exact hjj_2
set_option maxHeartbeats 4000000 in
set_option maxRecDepth 100000 in
theorem c_X12_mixed (l : Launch) (D : va_G) (cI cJ cZ cH : ClassId) (a_this a_this_before a_this_bestLead a_this_can a_this_given a_this_images a_this_isKept a_this_lead a_this_load a_this_most a_this_net a_this_on a_this_owes a_this_row a_this_silver a_this_st a_this_step a_this_to a_this_together a_this_value a_this_waits a_this_with : Nat) (v_this_above : Int64) (v_this_below : Int64) (v_this_st : Nat → Int32) (v_this_steps : Int32) (v_this_waiting : Int32) (p0 : Int64) (p1 : Int32) (p2 : Int32) {res : Int64} (h : F_X12_mixed v_this_st p0 p1 p2 = some res) : CTl l yX12_mixed wzX12_mixed { frames := 0, cells := 0, slots := 0, locals := 0 } D [(cI, .int), (cJ, .long), (cZ, .boolean), (cH, .object "TinHouse$House")] [.ref a_this, .long p0, .int p1, .int p2] [(a_this, .inr (12, [.ref a_this_st, .ref a_this_images, .ref a_this_isKept, .long v_this_above, .long v_this_below, .int v_this_steps, .ref a_this_step, .ref a_this_with, .int v_this_waiting, .ref a_this_waits, .ref a_this_value, .ref a_this_given, .ref a_this_net, .ref a_this_together, .ref a_this_most, .ref a_this_owes, .ref a_this_can, .ref a_this_row, .ref a_this_before, .ref a_this_to, .ref a_this_on, .ref a_this_load, .ref a_this_lead, .ref a_this_bestLead, .ref a_this_silver])), (a_this_st, .inl (cI, 1951, .inl v_this_st))] res [(a_this, .inr (12, [.ref a_this_st, .ref a_this_images, .ref a_this_isKept, .long v_this_above, .long v_this_below, .int v_this_steps, .ref a_this_step, .ref a_this_with, .int v_this_waiting, .ref a_this_waits, .ref a_this_value, .ref a_this_given, .ref a_this_net, .ref a_this_together, .ref a_this_most, .ref a_this_owes, .ref a_this_can, .ref a_this_row, .ref a_this_before, .ref a_this_to, .ref a_this_on, .ref a_this_load, .ref a_this_lead, .ref a_this_bestLead, .ref a_this_silver])), (a_this_st, .inl (cI, 1951, .inl v_this_st))] := by
  unfold F_X12_mixed at h
  refine ii_metL (own := RX12) (lv0 := [(0, .ref a_this), (1, .long p0), (3, .int p1), (4, .int p2)]) (by decide) rfl rfl rfl (Nat.le_of_ble_eq_true rfl) (fun {p e s m args below meth c A Q} hQ => ?_)
  refine ii_lload_n 1 dX12_mixed_0 rfl ?_
  refine ii_lstore (lv' := [(5, .long p0), (0, .ref a_this), (1, .long p0), (3, .int p1), (4, .int p2)]) dX12_mixed_1 (by decide) rfl ?_
  refine ii_iconst dX12_mixed_3 kc0 ?_
  refine ii_istore (lv' := [(7, .int (0 : Int32)), (5, .long p0), (0, .ref a_this), (1, .long p0), (3, .int p1), (4, .int p2)]) dX12_mixed_4 (by decide) rfl ?_
  refine ii_lv [2, 4, 5, 1, 0] rfl ?_
  obtain ⟨x_2, hl_1, h⟩ := bnd h
  refine ii_loopX (fun s_1 => [(a_this, .inr (12, [.ref a_this_st, .ref a_this_images, .ref a_this_isKept, .long v_this_above, .long v_this_below, .int v_this_steps, .ref a_this_step, .ref a_this_with, .int v_this_waiting, .ref a_this_waits, .ref a_this_value, .ref a_this_given, .ref a_this_net, .ref a_this_together, .ref a_this_most, .ref a_this_owes, .ref a_this_can, .ref a_this_row, .ref a_this_before, .ref a_this_to, .ref a_this_on, .ref a_this_load, .ref a_this_lead, .ref a_this_bestLead, .ref a_this_silver])), (a_this_st, .inl (cI, 1951, .inl v_this_st))]) (fun s_1 => [(0, .ref a_this), (3, .int p1), (4, .int p2), (5, .long s_1.1), (7, .int s_1.2)]) (fun x_2 => [(a_this, .inr (12, [.ref a_this_st, .ref a_this_images, .ref a_this_isKept, .long v_this_above, .long v_this_below, .int v_this_steps, .ref a_this_step, .ref a_this_with, .int v_this_waiting, .ref a_this_waits, .ref a_this_value, .ref a_this_given, .ref a_this_net, .ref a_this_together, .ref a_this_most, .ref a_this_owes, .ref a_this_can, .ref a_this_row, .ref a_this_before, .ref a_this_to, .ref a_this_on, .ref a_this_load, .ref a_this_lead, .ref a_this_bestLead, .ref a_this_silver])), (a_this_st, .inl (cI, 1951, .inl v_this_st))]) (fun x_2 => [(5, .long x_2.1)]) 38 hl_1 rfl rfl ?_ (fun s_1 o h hb_1 hr_1 hx_1 => ?_)
  · skip
    refine ii_lload 0 dX12_mixed_38 rfl ?_
    cases h
    exact hQ _ _ dX12_mixed_40
  · skip
    refine ii_iload 4 dX12_mixed_6 rfl ?_
    refine ii_iload 2 dX12_mixed_8 rfl ?_
    refine ii_icmp_ge (tgt := 38) h dX12_mixed_10 (by decide) (fun h => ?_) (fun h => ?_)
    · skip
      refine ii_lv [3] rfl ?_
      cases h
      exact hx_1 (s_1.1, s_1.2) (hr_1 _ rfl)
    · skip
      refine ii_ldc2 (v := 31) dX12_mixed_13 kX12_296 ?_
      refine ii_lload 3 dX12_mixed_16 rfl ?_
      refine ii_lmul dX12_mixed_18 ?_
      refine ii_aload_n 0 dX12_mixed_19 rfl ?_
      refine ii_get (C := RX12) (T := TX12) (N := 25) (ci := 12) izX12 0 rfl rfl 0 (by decide) kX12_7 rfl dX12_mixed_20 ?_
      refine ii_iload_n 1 dX12_mixed_23 rfl ?_
      refine ii_iload 4 dX12_mixed_24 rfl ?_
      refine ii_iadd dX12_mixed_26 ?_
      refine ii_iald h 1 0 rfl rfl dX12_mixed_27 (fun t_3 h => ?_)
      refine ii_i2l dX12_mixed_28 ?_
      refine ii_ladd dX12_mixed_29 ?_
      refine ii_topL h (fun x_4 h => ?_)
      refine ii_lstore (lv' := [(5, .long x_4), (0, .ref a_this), (3, .int p1), (4, .int p2), (7, .int s_1.2)]) dX12_mixed_30 (by decide) rfl ?_
      refine ii_iinc (fun x_5 => [(7, .int x_5), (5, .long x_4), (0, .ref a_this), (3, .int p1), (4, .int p2)]) h 4 dX12_mixed_32 rfl kc1 (by decide) (fun _ => rfl) (fun x_5 h => ?_)
      refine ii_goto (tgt := 6) dX12_mixed_35 (by decide) ?_
      refine ii_lv [2, 3, 4, 1, 0] rfl ?_
      cases h
      exact hb_1 (x_4, x_5) rfl
set_option maxHeartbeats 4000000 in
set_option maxRecDepth 100000 in
theorem c_X12_digest (l : Launch) (D : va_G) (cI cJ cZ cH : ClassId) (a_this a_this_before a_this_bestLead a_this_can a_this_given a_this_images a_this_isKept a_this_lead a_this_load a_this_most a_this_net a_this_on a_this_owes a_this_row a_this_silver a_this_st a_this_step a_this_to a_this_together a_this_value a_this_waits a_this_with : Nat) (v_this_above : Int64) (v_this_below : Int64) (v_this_given : Nat → Int64) (v_this_st : Nat → Int32) (v_this_step : Nat → Int32) (v_this_steps : Int32) (v_this_value : Nat → Int64) (v_this_waiting : Int32) (v_this_waits : Nat → Int32) (v_this_with : Nat → Int32) {res : Int64 × (Nat → Int64) × (Nat → Int32) × Int32 × (Nat → Int64) × Int32 × (Nat → Int32) × (Nat → Int32)} (h : F_X12_digest v_this_above v_this_below v_this_given v_this_st v_this_step v_this_steps v_this_value v_this_waiting v_this_waits v_this_with = some res) : CTl l yX12_digest wzX12_digest { frames := 7, cells := 0, slots := 0, locals := 178 } D [(cI, .int), (cJ, .long), (cZ, .boolean), (cH, .object "TinHouse$House")] [.ref a_this] [(a_this, .inr (12, [.ref a_this_st, .ref a_this_images, .ref a_this_isKept, .long v_this_above, .long v_this_below, .int v_this_steps, .ref a_this_step, .ref a_this_with, .int v_this_waiting, .ref a_this_waits, .ref a_this_value, .ref a_this_given, .ref a_this_net, .ref a_this_together, .ref a_this_most, .ref a_this_owes, .ref a_this_can, .ref a_this_row, .ref a_this_before, .ref a_this_to, .ref a_this_on, .ref a_this_load, .ref a_this_lead, .ref a_this_bestLead, .ref a_this_silver])), (a_this_given, .inl (cJ, 5, .inr (.inl v_this_given))), (a_this_st, .inl (cI, 1951, .inl v_this_st)), (a_this_step, .inl (cI, 70, .inl v_this_step)), (a_this_value, .inl (cJ, 70, .inr (.inl v_this_value))), (a_this_waits, .inl (cI, 70, .inl v_this_waits)), (a_this_with, .inl (cI, 70, .inl v_this_with))] res.1 [(a_this, .inr (12, [.ref a_this_st, .ref a_this_images, .ref a_this_isKept, .long v_this_above, .long v_this_below, .int res.2.2.2.1, .ref a_this_step, .ref a_this_with, .int res.2.2.2.2.2.1, .ref a_this_waits, .ref a_this_value, .ref a_this_given, .ref a_this_net, .ref a_this_together, .ref a_this_most, .ref a_this_owes, .ref a_this_can, .ref a_this_row, .ref a_this_before, .ref a_this_to, .ref a_this_on, .ref a_this_load, .ref a_this_lead, .ref a_this_bestLead, .ref a_this_silver])), (a_this_given, .inl (cJ, 5, .inr (.inl res.2.1))), (a_this_st, .inl (cI, 1951, .inl v_this_st)), (a_this_step, .inl (cI, 70, .inl res.2.2.1)), (a_this_value, .inl (cJ, 70, .inr (.inl res.2.2.2.2.1))), (a_this_waits, .inl (cI, 70, .inl res.2.2.2.2.2.2.1)), (a_this_with, .inl (cI, 70, .inl res.2.2.2.2.2.2.2))] := by
  unfold F_X12_digest at h
  refine ii_metL (own := RX12) (lv0 := [(0, .ref a_this)]) (by decide) rfl rfl rfl (Nat.le_of_ble_eq_true rfl) (fun {p e s m args below meth c A Q} hQ => ?_)
  refine ii_aload_n 0 dX12_digest_0 rfl ?_
  refine ii_ldc2 (v := 379) dX12_digest_1 kX12_298 ?_
  refine ii_iconst dX12_digest_4 kc0 ?_
  refine ii_bipush dX12_digest_5 kb11 ?_
  obtain ⟨c_1, hc_1, h⟩ := bnd h
  refine ii_callVl (As := [.long (379 : Int64), .int (0 : Int32), .int (11 : Int32)]) (ws' := [(a_this, .inr (12, [.ref a_this_st, .ref a_this_images, .ref a_this_isKept, .long v_this_above, .long v_this_below, .int v_this_steps, .ref a_this_step, .ref a_this_with, .int v_this_waiting, .ref a_this_waits, .ref a_this_value, .ref a_this_given, .ref a_this_net, .ref a_this_together, .ref a_this_most, .ref a_this_owes, .ref a_this_can, .ref a_this_row, .ref a_this_before, .ref a_this_to, .ref a_this_on, .ref a_this_load, .ref a_this_lead, .ref a_this_bestLead, .ref a_this_silver])), (a_this_given, .inl (cJ, 5, .inr (.inl v_this_given))), (a_this_st, .inl (cI, 1951, .inl v_this_st)), (a_this_step, .inl (cI, 70, .inl v_this_step)), (a_this_value, .inl (cJ, 70, .inr (.inl v_this_value))), (a_this_waits, .inl (cI, 70, .inl v_this_waits)), (a_this_with, .inl (cI, 70, .inl v_this_with))]) (st := []) (c_X12_mixed l D cI cJ cZ cH a_this a_this_before a_this_bestLead a_this_can a_this_given a_this_images a_this_isKept a_this_lead a_this_load a_this_most a_this_net a_this_on a_this_owes a_this_row a_this_silver a_this_st a_this_step a_this_to a_this_together a_this_value a_this_waits a_this_with v_this_above v_this_below v_this_st v_this_steps v_this_waiting (379 : Int64) (0 : Int32) (11 : Int32) hc_1) gzX12_300 rfl rfl rfl eV_X12_mixed ⟨Nat.le_of_ble_eq_true rfl, Nat.le_of_ble_eq_true rfl⟩ rfl 0 rfl rfl [0, 2] rfl rfl rfl rfl rfl (Nat.le_of_ble_eq_true rfl) (Nat.le_refl _) (Nat.le_refl _) rfl dX12_digest_7 ?_
  refine ii_lstore_n (lv' := [(1, .long c_1), (0, .ref a_this)]) dX12_digest_10 rfl (by decide) rfl ?_
  refine ii_aload_n 1 dX12_digest_11 rfl ?_
  refine ii_lload_n 0 dX12_digest_12 rfl ?_
  refine ii_bipush dX12_digest_13 kb20 ?_
  refine ii_iconst dX12_digest_15 kc2 ?_
  refine ii_aload_n 1 dX12_digest_16 rfl ?_
  refine ii_get (C := RX12) (T := TX12) (N := 25) (ci := 12) izX12 0 rfl rfl 0 (by decide) kX12_7 rfl dX12_digest_17 ?_
  refine ii_iconst dX12_digest_20 kc0 ?_
  refine ii_iald h 2 0 rfl rfl dX12_digest_21 (fun t_2 h => ?_)
  refine ii_imul dX12_digest_22 ?_
  obtain ⟨c_3, hc_3, h⟩ := bnd h
  refine ii_callVl (As := [.long c_1, .int (20 : Int32), .int ((2 : Int32) * t_2)]) (ws' := [(a_this, .inr (12, [.ref a_this_st, .ref a_this_images, .ref a_this_isKept, .long v_this_above, .long v_this_below, .int v_this_steps, .ref a_this_step, .ref a_this_with, .int v_this_waiting, .ref a_this_waits, .ref a_this_value, .ref a_this_given, .ref a_this_net, .ref a_this_together, .ref a_this_most, .ref a_this_owes, .ref a_this_can, .ref a_this_row, .ref a_this_before, .ref a_this_to, .ref a_this_on, .ref a_this_load, .ref a_this_lead, .ref a_this_bestLead, .ref a_this_silver])), (a_this_given, .inl (cJ, 5, .inr (.inl v_this_given))), (a_this_st, .inl (cI, 1951, .inl v_this_st)), (a_this_step, .inl (cI, 70, .inl v_this_step)), (a_this_value, .inl (cJ, 70, .inr (.inl v_this_value))), (a_this_waits, .inl (cI, 70, .inl v_this_waits)), (a_this_with, .inl (cI, 70, .inl v_this_with))]) (st := []) (c_X12_mixed l D cI cJ cZ cH a_this a_this_before a_this_bestLead a_this_can a_this_given a_this_images a_this_isKept a_this_lead a_this_load a_this_most a_this_net a_this_on a_this_owes a_this_row a_this_silver a_this_st a_this_step a_this_to a_this_together a_this_value a_this_waits a_this_with v_this_above v_this_below v_this_st v_this_steps v_this_waiting c_1 (20 : Int32) ((2 : Int32) * t_2) hc_3) gzX12_300 rfl rfl rfl eV_X12_mixed ⟨Nat.le_of_ble_eq_true rfl, Nat.le_of_ble_eq_true rfl⟩ rfl 0 rfl rfl [0, 2] rfl rfl rfl rfl rfl (Nat.le_of_ble_eq_true rfl) (Nat.le_refl _) (Nat.le_refl _) rfl dX12_digest_23 ?_
  refine ii_lstore_n (lv' := [(1, .long c_3), (0, .ref a_this)]) dX12_digest_26 rfl (by decide) rfl ?_
  refine ii_iconst dX12_digest_27 kc0 ?_
  refine ii_istore_n (lv' := [(3, .int (0 : Int32)), (1, .long c_3), (0, .ref a_this)]) dX12_digest_28 rfl (by decide) rfl ?_
  refine ii_lv [2, 1, 0] rfl ?_
  obtain ⟨x_5, hl_4, h⟩ := bnd h
  refine ii_loopX (fun s_4 => [(a_this, .inr (12, [.ref a_this_st, .ref a_this_images, .ref a_this_isKept, .long v_this_above, .long v_this_below, .int v_this_steps, .ref a_this_step, .ref a_this_with, .int v_this_waiting, .ref a_this_waits, .ref a_this_value, .ref a_this_given, .ref a_this_net, .ref a_this_together, .ref a_this_most, .ref a_this_owes, .ref a_this_can, .ref a_this_row, .ref a_this_before, .ref a_this_to, .ref a_this_on, .ref a_this_load, .ref a_this_lead, .ref a_this_bestLead, .ref a_this_silver])), (a_this_given, .inl (cJ, 5, .inr (.inl v_this_given))), (a_this_st, .inl (cI, 1951, .inl v_this_st)), (a_this_step, .inl (cI, 70, .inl v_this_step)), (a_this_value, .inl (cJ, 70, .inr (.inl v_this_value))), (a_this_waits, .inl (cI, 70, .inl v_this_waits)), (a_this_with, .inl (cI, 70, .inl v_this_with))]) (fun s_4 => [(0, .ref a_this), (1, .long s_4.1), (3, .int s_4.2)]) (fun x_5 => [(a_this, .inr (12, [.ref a_this_st, .ref a_this_images, .ref a_this_isKept, .long v_this_above, .long v_this_below, .int v_this_steps, .ref a_this_step, .ref a_this_with, .int v_this_waiting, .ref a_this_waits, .ref a_this_value, .ref a_this_given, .ref a_this_net, .ref a_this_together, .ref a_this_most, .ref a_this_owes, .ref a_this_can, .ref a_this_row, .ref a_this_before, .ref a_this_to, .ref a_this_on, .ref a_this_load, .ref a_this_lead, .ref a_this_bestLead, .ref a_this_silver])), (a_this_given, .inl (cJ, 5, .inr (.inl v_this_given))), (a_this_st, .inl (cI, 1951, .inl v_this_st)), (a_this_step, .inl (cI, 70, .inl v_this_step)), (a_this_value, .inl (cJ, 70, .inr (.inl v_this_value))), (a_this_waits, .inl (cI, 70, .inl v_this_waits)), (a_this_with, .inl (cI, 70, .inl v_this_with))]) (fun x_5 => [(0, .ref a_this), (1, .long x_5.1)]) 76 hl_4 rfl rfl ?_ (fun s_4 o h hb_4 hr_4 hx_4 => ?_)
  · skip
    refine ii_aload_n 0 dX12_digest_76 rfl ?_
    refine ii_aload_n 0 dX12_digest_77 rfl ?_
    refine ii_lload_n 1 dX12_digest_78 rfl ?_
    refine ii_sipush dX12_digest_79 ks1092 ?_
    refine ii_bipush dX12_digest_82 kb7 ?_
    refine ii_aload_n 0 dX12_digest_84 rfl ?_
    refine ii_get (C := RX12) (T := TX12) (N := 25) (ci := 12) izX12 0 rfl rfl 0 (by decide) kX12_7 rfl dX12_digest_85 ?_
    refine ii_iconst dX12_digest_88 kc2 ?_
    refine ii_iald h 2 0 rfl rfl dX12_digest_89 (fun t_10 h => ?_)
    refine ii_imul dX12_digest_90 ?_
    obtain ⟨c_11, hc_11, h⟩ := bnd h
    refine ii_callVl (As := [.long x_5.1, .int (1092 : Int32), .int ((7 : Int32) * t_10)]) (ws' := [(a_this, .inr (12, [.ref a_this_st, .ref a_this_images, .ref a_this_isKept, .long v_this_above, .long v_this_below, .int v_this_steps, .ref a_this_step, .ref a_this_with, .int v_this_waiting, .ref a_this_waits, .ref a_this_value, .ref a_this_given, .ref a_this_net, .ref a_this_together, .ref a_this_most, .ref a_this_owes, .ref a_this_can, .ref a_this_row, .ref a_this_before, .ref a_this_to, .ref a_this_on, .ref a_this_load, .ref a_this_lead, .ref a_this_bestLead, .ref a_this_silver])), (a_this_given, .inl (cJ, 5, .inr (.inl v_this_given))), (a_this_st, .inl (cI, 1951, .inl v_this_st)), (a_this_step, .inl (cI, 70, .inl v_this_step)), (a_this_value, .inl (cJ, 70, .inr (.inl v_this_value))), (a_this_waits, .inl (cI, 70, .inl v_this_waits)), (a_this_with, .inl (cI, 70, .inl v_this_with))]) (st := [.ref a_this]) (c_X12_mixed l D cI cJ cZ cH a_this a_this_before a_this_bestLead a_this_can a_this_given a_this_images a_this_isKept a_this_lead a_this_load a_this_most a_this_net a_this_on a_this_owes a_this_row a_this_silver a_this_st a_this_step a_this_to a_this_together a_this_value a_this_waits a_this_with v_this_above v_this_below v_this_st v_this_steps v_this_waiting x_5.1 (1092 : Int32) ((7 : Int32) * t_10) hc_11) gzX12_300 rfl rfl rfl eV_X12_mixed ⟨Nat.le_of_ble_eq_true rfl, Nat.le_of_ble_eq_true rfl⟩ rfl 0 rfl rfl [0, 2] rfl rfl rfl rfl rfl (Nat.le_of_ble_eq_true rfl) (Nat.le_refl _) (Nat.le_refl _) rfl dX12_digest_91 ?_
    refine ii_sipush dX12_digest_94 ks1372 ?_
    refine ii_iconst dX12_digest_97 kc3 ?_
    refine ii_aload_n 0 dX12_digest_98 rfl ?_
    refine ii_get (C := RX12) (T := TX12) (N := 25) (ci := 12) izX12 0 rfl rfl 0 (by decide) kX12_7 rfl dX12_digest_99 ?_
    refine ii_iconst dX12_digest_102 kc3 ?_
    refine ii_iald h 2 0 rfl rfl dX12_digest_103 (fun t_12 h => ?_)
    refine ii_imul dX12_digest_104 ?_
    obtain ⟨c_13, hc_13, h⟩ := bnd h
    refine ii_callVl (As := [.long c_11, .int (1372 : Int32), .int ((3 : Int32) * t_12)]) (ws' := [(a_this, .inr (12, [.ref a_this_st, .ref a_this_images, .ref a_this_isKept, .long v_this_above, .long v_this_below, .int v_this_steps, .ref a_this_step, .ref a_this_with, .int v_this_waiting, .ref a_this_waits, .ref a_this_value, .ref a_this_given, .ref a_this_net, .ref a_this_together, .ref a_this_most, .ref a_this_owes, .ref a_this_can, .ref a_this_row, .ref a_this_before, .ref a_this_to, .ref a_this_on, .ref a_this_load, .ref a_this_lead, .ref a_this_bestLead, .ref a_this_silver])), (a_this_given, .inl (cJ, 5, .inr (.inl v_this_given))), (a_this_st, .inl (cI, 1951, .inl v_this_st)), (a_this_step, .inl (cI, 70, .inl v_this_step)), (a_this_value, .inl (cJ, 70, .inr (.inl v_this_value))), (a_this_waits, .inl (cI, 70, .inl v_this_waits)), (a_this_with, .inl (cI, 70, .inl v_this_with))]) (st := []) (c_X12_mixed l D cI cJ cZ cH a_this a_this_before a_this_bestLead a_this_can a_this_given a_this_images a_this_isKept a_this_lead a_this_load a_this_most a_this_net a_this_on a_this_owes a_this_row a_this_silver a_this_st a_this_step a_this_to a_this_together a_this_value a_this_waits a_this_with v_this_above v_this_below v_this_st v_this_steps v_this_waiting c_11 (1372 : Int32) ((3 : Int32) * t_12) hc_13) gzX12_300 rfl rfl rfl eV_X12_mixed ⟨Nat.le_of_ble_eq_true rfl, Nat.le_of_ble_eq_true rfl⟩ rfl 0 rfl rfl [0, 2] rfl rfl rfl rfl rfl (Nat.le_of_ble_eq_true rfl) (Nat.le_refl _) (Nat.le_refl _) rfl dX12_digest_105 ?_
    refine ii_lstore_n (lv' := [(1, .long c_13), (0, .ref a_this)]) dX12_digest_108 rfl (by decide) rfl ?_
    refine ii_iconst dX12_digest_109 kc0 ?_
    refine ii_istore_n (lv' := [(3, .int (0 : Int32)), (1, .long c_13), (0, .ref a_this)]) dX12_digest_110 rfl (by decide) rfl ?_
    refine ii_lv [2, 1, 0] rfl ?_
    obtain ⟨x_15, hl_14, h⟩ := bnd h
    refine ii_loopX (fun s_14 => [(a_this, .inr (12, [.ref a_this_st, .ref a_this_images, .ref a_this_isKept, .long v_this_above, .long v_this_below, .int v_this_steps, .ref a_this_step, .ref a_this_with, .int v_this_waiting, .ref a_this_waits, .ref a_this_value, .ref a_this_given, .ref a_this_net, .ref a_this_together, .ref a_this_most, .ref a_this_owes, .ref a_this_can, .ref a_this_row, .ref a_this_before, .ref a_this_to, .ref a_this_on, .ref a_this_load, .ref a_this_lead, .ref a_this_bestLead, .ref a_this_silver])), (a_this_given, .inl (cJ, 5, .inr (.inl v_this_given))), (a_this_st, .inl (cI, 1951, .inl v_this_st)), (a_this_step, .inl (cI, 70, .inl v_this_step)), (a_this_value, .inl (cJ, 70, .inr (.inl v_this_value))), (a_this_waits, .inl (cI, 70, .inl v_this_waits)), (a_this_with, .inl (cI, 70, .inl v_this_with))]) (fun s_14 => [(0, .ref a_this), (1, .long s_14.1), (3, .int s_14.2)]) (fun x_15 => [(a_this, .inr (12, [.ref a_this_st, .ref a_this_images, .ref a_this_isKept, .long v_this_above, .long v_this_below, .int v_this_steps, .ref a_this_step, .ref a_this_with, .int v_this_waiting, .ref a_this_waits, .ref a_this_value, .ref a_this_given, .ref a_this_net, .ref a_this_together, .ref a_this_most, .ref a_this_owes, .ref a_this_can, .ref a_this_row, .ref a_this_before, .ref a_this_to, .ref a_this_on, .ref a_this_load, .ref a_this_lead, .ref a_this_bestLead, .ref a_this_silver])), (a_this_given, .inl (cJ, 5, .inr (.inl v_this_given))), (a_this_st, .inl (cI, 1951, .inl v_this_st)), (a_this_step, .inl (cI, 70, .inl v_this_step)), (a_this_value, .inl (cJ, 70, .inr (.inl v_this_value))), (a_this_waits, .inl (cI, 70, .inl v_this_waits)), (a_this_with, .inl (cI, 70, .inl v_this_with))]) (fun x_15 => [(0, .ref a_this), (1, .long x_15.1)]) 149 hl_14 rfl rfl ?_ (fun s_14 o h hb_14 hr_14 hx_14 => ?_)
    · skip
      refine ii_aload_n 0 dX12_digest_149 rfl ?_
      refine ii_aload_n 0 dX12_digest_150 rfl ?_
      refine ii_aload_n 0 dX12_digest_151 rfl ?_
      refine ii_lload_n 1 dX12_digest_152 rfl ?_
      refine ii_sipush dX12_digest_153 ks1591 ?_
      refine ii_aload_n 0 dX12_digest_156 rfl ?_
      refine ii_get (C := RX12) (T := TX12) (N := 25) (ci := 12) izX12 0 rfl rfl 0 (by decide) kX12_7 rfl dX12_digest_157 ?_
      refine ii_iconst dX12_digest_160 kc5 ?_
      refine ii_iald h 2 0 rfl rfl dX12_digest_161 (fun t_20 h => ?_)
      obtain ⟨c_21, hc_21, h⟩ := bnd h
      refine ii_callVl (As := [.long x_15.1, .int (1591 : Int32), .int t_20]) (ws' := [(a_this, .inr (12, [.ref a_this_st, .ref a_this_images, .ref a_this_isKept, .long v_this_above, .long v_this_below, .int v_this_steps, .ref a_this_step, .ref a_this_with, .int v_this_waiting, .ref a_this_waits, .ref a_this_value, .ref a_this_given, .ref a_this_net, .ref a_this_together, .ref a_this_most, .ref a_this_owes, .ref a_this_can, .ref a_this_row, .ref a_this_before, .ref a_this_to, .ref a_this_on, .ref a_this_load, .ref a_this_lead, .ref a_this_bestLead, .ref a_this_silver])), (a_this_given, .inl (cJ, 5, .inr (.inl v_this_given))), (a_this_st, .inl (cI, 1951, .inl v_this_st)), (a_this_step, .inl (cI, 70, .inl v_this_step)), (a_this_value, .inl (cJ, 70, .inr (.inl v_this_value))), (a_this_waits, .inl (cI, 70, .inl v_this_waits)), (a_this_with, .inl (cI, 70, .inl v_this_with))]) (st := [.ref a_this, .ref a_this]) (c_X12_mixed l D cI cJ cZ cH a_this a_this_before a_this_bestLead a_this_can a_this_given a_this_images a_this_isKept a_this_lead a_this_load a_this_most a_this_net a_this_on a_this_owes a_this_row a_this_silver a_this_st a_this_step a_this_to a_this_together a_this_value a_this_waits a_this_with v_this_above v_this_below v_this_st v_this_steps v_this_waiting x_15.1 (1591 : Int32) t_20 hc_21) gzX12_300 rfl rfl rfl eV_X12_mixed ⟨Nat.le_of_ble_eq_true rfl, Nat.le_of_ble_eq_true rfl⟩ rfl 0 rfl rfl [0, 2] rfl rfl rfl rfl rfl (Nat.le_of_ble_eq_true rfl) (Nat.le_refl _) (Nat.le_refl _) rfl dX12_digest_162 ?_
      refine ii_bipush dX12_digest_165 kb11 ?_
      refine ii_iconst dX12_digest_167 kc1 ?_
      obtain ⟨c_22, hc_22, h⟩ := bnd h
      refine ii_callVl (As := [.long c_21, .int (11 : Int32), .int (1 : Int32)]) (ws' := [(a_this, .inr (12, [.ref a_this_st, .ref a_this_images, .ref a_this_isKept, .long v_this_above, .long v_this_below, .int v_this_steps, .ref a_this_step, .ref a_this_with, .int v_this_waiting, .ref a_this_waits, .ref a_this_value, .ref a_this_given, .ref a_this_net, .ref a_this_together, .ref a_this_most, .ref a_this_owes, .ref a_this_can, .ref a_this_row, .ref a_this_before, .ref a_this_to, .ref a_this_on, .ref a_this_load, .ref a_this_lead, .ref a_this_bestLead, .ref a_this_silver])), (a_this_given, .inl (cJ, 5, .inr (.inl v_this_given))), (a_this_st, .inl (cI, 1951, .inl v_this_st)), (a_this_step, .inl (cI, 70, .inl v_this_step)), (a_this_value, .inl (cJ, 70, .inr (.inl v_this_value))), (a_this_waits, .inl (cI, 70, .inl v_this_waits)), (a_this_with, .inl (cI, 70, .inl v_this_with))]) (st := [.ref a_this]) (c_X12_mixed l D cI cJ cZ cH a_this a_this_before a_this_bestLead a_this_can a_this_given a_this_images a_this_isKept a_this_lead a_this_load a_this_most a_this_net a_this_on a_this_owes a_this_row a_this_silver a_this_st a_this_step a_this_to a_this_together a_this_value a_this_waits a_this_with v_this_above v_this_below v_this_st v_this_steps v_this_waiting c_21 (11 : Int32) (1 : Int32) hc_22) gzX12_300 rfl rfl rfl eV_X12_mixed ⟨Nat.le_of_ble_eq_true rfl, Nat.le_of_ble_eq_true rfl⟩ rfl 0 rfl rfl [0, 2] rfl rfl rfl rfl rfl (Nat.le_of_ble_eq_true rfl) (Nat.le_refl _) (Nat.le_refl _) rfl dX12_digest_168 ?_
      refine ii_sipush dX12_digest_171 ks1597 ?_
      refine ii_iconst dX12_digest_174 kc3 ?_
      refine ii_aload_n 0 dX12_digest_175 rfl ?_
      refine ii_get (C := RX12) (T := TX12) (N := 25) (ci := 12) izX12 0 rfl rfl 0 (by decide) kX12_7 rfl dX12_digest_176 ?_
      refine ii_bipush dX12_digest_179 kb6 ?_
      refine ii_iald h 2 0 rfl rfl dX12_digest_181 (fun t_23 h => ?_)
      refine ii_imul dX12_digest_182 ?_
      obtain ⟨c_24, hc_24, h⟩ := bnd h
      refine ii_callVl (As := [.long c_22, .int (1597 : Int32), .int ((3 : Int32) * t_23)]) (ws' := [(a_this, .inr (12, [.ref a_this_st, .ref a_this_images, .ref a_this_isKept, .long v_this_above, .long v_this_below, .int v_this_steps, .ref a_this_step, .ref a_this_with, .int v_this_waiting, .ref a_this_waits, .ref a_this_value, .ref a_this_given, .ref a_this_net, .ref a_this_together, .ref a_this_most, .ref a_this_owes, .ref a_this_can, .ref a_this_row, .ref a_this_before, .ref a_this_to, .ref a_this_on, .ref a_this_load, .ref a_this_lead, .ref a_this_bestLead, .ref a_this_silver])), (a_this_given, .inl (cJ, 5, .inr (.inl v_this_given))), (a_this_st, .inl (cI, 1951, .inl v_this_st)), (a_this_step, .inl (cI, 70, .inl v_this_step)), (a_this_value, .inl (cJ, 70, .inr (.inl v_this_value))), (a_this_waits, .inl (cI, 70, .inl v_this_waits)), (a_this_with, .inl (cI, 70, .inl v_this_with))]) (st := []) (c_X12_mixed l D cI cJ cZ cH a_this a_this_before a_this_bestLead a_this_can a_this_given a_this_images a_this_isKept a_this_lead a_this_load a_this_most a_this_net a_this_on a_this_owes a_this_row a_this_silver a_this_st a_this_step a_this_to a_this_together a_this_value a_this_waits a_this_with v_this_above v_this_below v_this_st v_this_steps v_this_waiting c_22 (1597 : Int32) ((3 : Int32) * t_23) hc_24) gzX12_300 rfl rfl rfl eV_X12_mixed ⟨Nat.le_of_ble_eq_true rfl, Nat.le_of_ble_eq_true rfl⟩ rfl 0 rfl rfl [0, 2] rfl rfl rfl rfl rfl (Nat.le_of_ble_eq_true rfl) (Nat.le_refl _) (Nat.le_refl _) rfl dX12_digest_183 ?_
      refine ii_lstore_n (lv' := [(1, .long c_24), (0, .ref a_this)]) dX12_digest_186 rfl (by decide) rfl ?_
      refine ii_aload_n 1 dX12_digest_187 rfl ?_
      refine ii_aload_n 1 dX12_digest_188 rfl ?_
      refine ii_lload_n 0 dX12_digest_189 rfl ?_
      refine ii_bipush dX12_digest_190 kb12 ?_
      refine ii_iconst dX12_digest_192 kc1 ?_
      obtain ⟨c_25, hc_25, h⟩ := bnd h
      refine ii_callVl (As := [.long c_24, .int (12 : Int32), .int (1 : Int32)]) (ws' := [(a_this, .inr (12, [.ref a_this_st, .ref a_this_images, .ref a_this_isKept, .long v_this_above, .long v_this_below, .int v_this_steps, .ref a_this_step, .ref a_this_with, .int v_this_waiting, .ref a_this_waits, .ref a_this_value, .ref a_this_given, .ref a_this_net, .ref a_this_together, .ref a_this_most, .ref a_this_owes, .ref a_this_can, .ref a_this_row, .ref a_this_before, .ref a_this_to, .ref a_this_on, .ref a_this_load, .ref a_this_lead, .ref a_this_bestLead, .ref a_this_silver])), (a_this_given, .inl (cJ, 5, .inr (.inl v_this_given))), (a_this_st, .inl (cI, 1951, .inl v_this_st)), (a_this_step, .inl (cI, 70, .inl v_this_step)), (a_this_value, .inl (cJ, 70, .inr (.inl v_this_value))), (a_this_waits, .inl (cI, 70, .inl v_this_waits)), (a_this_with, .inl (cI, 70, .inl v_this_with))]) (st := [.ref a_this]) (c_X12_mixed l D cI cJ cZ cH a_this a_this_before a_this_bestLead a_this_can a_this_given a_this_images a_this_isKept a_this_lead a_this_load a_this_most a_this_net a_this_on a_this_owes a_this_row a_this_silver a_this_st a_this_step a_this_to a_this_together a_this_value a_this_waits a_this_with v_this_above v_this_below v_this_st v_this_steps v_this_waiting c_24 (12 : Int32) (1 : Int32) hc_25) gzX12_300 rfl rfl rfl eV_X12_mixed ⟨Nat.le_of_ble_eq_true rfl, Nat.le_of_ble_eq_true rfl⟩ rfl 0 rfl rfl [0, 2] rfl rfl rfl rfl rfl (Nat.le_of_ble_eq_true rfl) (Nat.le_refl _) (Nat.le_refl _) rfl dX12_digest_193 ?_
      refine ii_sipush dX12_digest_196 ks1633 ?_
      refine ii_iconst dX12_digest_199 kc3 ?_
      refine ii_aload_n 1 dX12_digest_200 rfl ?_
      refine ii_get (C := RX12) (T := TX12) (N := 25) (ci := 12) izX12 0 rfl rfl 0 (by decide) kX12_7 rfl dX12_digest_201 ?_
      refine ii_bipush dX12_digest_204 kb7 ?_
      refine ii_iald h 2 0 rfl rfl dX12_digest_206 (fun t_26 h => ?_)
      refine ii_imul dX12_digest_207 ?_
      obtain ⟨c_27, hc_27, h⟩ := bnd h
      refine ii_callVl (As := [.long c_25, .int (1633 : Int32), .int ((3 : Int32) * t_26)]) (ws' := [(a_this, .inr (12, [.ref a_this_st, .ref a_this_images, .ref a_this_isKept, .long v_this_above, .long v_this_below, .int v_this_steps, .ref a_this_step, .ref a_this_with, .int v_this_waiting, .ref a_this_waits, .ref a_this_value, .ref a_this_given, .ref a_this_net, .ref a_this_together, .ref a_this_most, .ref a_this_owes, .ref a_this_can, .ref a_this_row, .ref a_this_before, .ref a_this_to, .ref a_this_on, .ref a_this_load, .ref a_this_lead, .ref a_this_bestLead, .ref a_this_silver])), (a_this_given, .inl (cJ, 5, .inr (.inl v_this_given))), (a_this_st, .inl (cI, 1951, .inl v_this_st)), (a_this_step, .inl (cI, 70, .inl v_this_step)), (a_this_value, .inl (cJ, 70, .inr (.inl v_this_value))), (a_this_waits, .inl (cI, 70, .inl v_this_waits)), (a_this_with, .inl (cI, 70, .inl v_this_with))]) (st := []) (c_X12_mixed l D cI cJ cZ cH a_this a_this_before a_this_bestLead a_this_can a_this_given a_this_images a_this_isKept a_this_lead a_this_load a_this_most a_this_net a_this_on a_this_owes a_this_row a_this_silver a_this_st a_this_step a_this_to a_this_together a_this_value a_this_waits a_this_with v_this_above v_this_below v_this_st v_this_steps v_this_waiting c_25 (1633 : Int32) ((3 : Int32) * t_26) hc_27) gzX12_300 rfl rfl rfl eV_X12_mixed ⟨Nat.le_of_ble_eq_true rfl, Nat.le_of_ble_eq_true rfl⟩ rfl 0 rfl rfl [0, 2] rfl rfl rfl rfl rfl (Nat.le_of_ble_eq_true rfl) (Nat.le_refl _) (Nat.le_refl _) rfl dX12_digest_208 ?_
      refine ii_lstore_n (lv' := [(1, .long c_27), (0, .ref a_this)]) dX12_digest_211 rfl (by decide) rfl ?_
      refine ii_aload_n 1 dX12_digest_212 rfl ?_
      refine ii_aload_n 1 dX12_digest_213 rfl ?_
      refine ii_lload_n 0 dX12_digest_214 rfl ?_
      refine ii_sipush dX12_digest_215 ks1753 ?_
      refine ii_iconst dX12_digest_218 kc5 ?_
      refine ii_aload_n 1 dX12_digest_219 rfl ?_
      refine ii_get (C := RX12) (T := TX12) (N := 25) (ci := 12) izX12 0 rfl rfl 0 (by decide) kX12_7 rfl dX12_digest_220 ?_
      refine ii_bipush dX12_digest_223 kb8 ?_
      refine ii_iald h 2 0 rfl rfl dX12_digest_225 (fun t_28 h => ?_)
      refine ii_imul dX12_digest_226 ?_
      obtain ⟨c_29, hc_29, h⟩ := bnd h
      refine ii_callVl (As := [.long c_27, .int (1753 : Int32), .int ((5 : Int32) * t_28)]) (ws' := [(a_this, .inr (12, [.ref a_this_st, .ref a_this_images, .ref a_this_isKept, .long v_this_above, .long v_this_below, .int v_this_steps, .ref a_this_step, .ref a_this_with, .int v_this_waiting, .ref a_this_waits, .ref a_this_value, .ref a_this_given, .ref a_this_net, .ref a_this_together, .ref a_this_most, .ref a_this_owes, .ref a_this_can, .ref a_this_row, .ref a_this_before, .ref a_this_to, .ref a_this_on, .ref a_this_load, .ref a_this_lead, .ref a_this_bestLead, .ref a_this_silver])), (a_this_given, .inl (cJ, 5, .inr (.inl v_this_given))), (a_this_st, .inl (cI, 1951, .inl v_this_st)), (a_this_step, .inl (cI, 70, .inl v_this_step)), (a_this_value, .inl (cJ, 70, .inr (.inl v_this_value))), (a_this_waits, .inl (cI, 70, .inl v_this_waits)), (a_this_with, .inl (cI, 70, .inl v_this_with))]) (st := [.ref a_this]) (c_X12_mixed l D cI cJ cZ cH a_this a_this_before a_this_bestLead a_this_can a_this_given a_this_images a_this_isKept a_this_lead a_this_load a_this_most a_this_net a_this_on a_this_owes a_this_row a_this_silver a_this_st a_this_step a_this_to a_this_together a_this_value a_this_waits a_this_with v_this_above v_this_below v_this_st v_this_steps v_this_waiting c_27 (1753 : Int32) ((5 : Int32) * t_28) hc_29) gzX12_300 rfl rfl rfl eV_X12_mixed ⟨Nat.le_of_ble_eq_true rfl, Nat.le_of_ble_eq_true rfl⟩ rfl 0 rfl rfl [0, 2] rfl rfl rfl rfl rfl (Nat.le_of_ble_eq_true rfl) (Nat.le_refl _) (Nat.le_refl _) rfl dX12_digest_227 ?_
      refine ii_sipush dX12_digest_230 ks1903 ?_
      refine ii_iconst dX12_digest_233 kc3 ?_
      refine ii_aload_n 1 dX12_digest_234 rfl ?_
      refine ii_get (C := RX12) (T := TX12) (N := 25) (ci := 12) izX12 0 rfl rfl 0 (by decide) kX12_7 rfl dX12_digest_235 ?_
      refine ii_bipush dX12_digest_238 kb9 ?_
      refine ii_iald h 2 0 rfl rfl dX12_digest_240 (fun t_30 h => ?_)
      refine ii_imul dX12_digest_241 ?_
      obtain ⟨c_31, hc_31, h⟩ := bnd h
      refine ii_callVl (As := [.long c_29, .int (1903 : Int32), .int ((3 : Int32) * t_30)]) (ws' := [(a_this, .inr (12, [.ref a_this_st, .ref a_this_images, .ref a_this_isKept, .long v_this_above, .long v_this_below, .int v_this_steps, .ref a_this_step, .ref a_this_with, .int v_this_waiting, .ref a_this_waits, .ref a_this_value, .ref a_this_given, .ref a_this_net, .ref a_this_together, .ref a_this_most, .ref a_this_owes, .ref a_this_can, .ref a_this_row, .ref a_this_before, .ref a_this_to, .ref a_this_on, .ref a_this_load, .ref a_this_lead, .ref a_this_bestLead, .ref a_this_silver])), (a_this_given, .inl (cJ, 5, .inr (.inl v_this_given))), (a_this_st, .inl (cI, 1951, .inl v_this_st)), (a_this_step, .inl (cI, 70, .inl v_this_step)), (a_this_value, .inl (cJ, 70, .inr (.inl v_this_value))), (a_this_waits, .inl (cI, 70, .inl v_this_waits)), (a_this_with, .inl (cI, 70, .inl v_this_with))]) (st := []) (c_X12_mixed l D cI cJ cZ cH a_this a_this_before a_this_bestLead a_this_can a_this_given a_this_images a_this_isKept a_this_lead a_this_load a_this_most a_this_net a_this_on a_this_owes a_this_row a_this_silver a_this_st a_this_step a_this_to a_this_together a_this_value a_this_waits a_this_with v_this_above v_this_below v_this_st v_this_steps v_this_waiting c_29 (1903 : Int32) ((3 : Int32) * t_30) hc_31) gzX12_300 rfl rfl rfl eV_X12_mixed ⟨Nat.le_of_ble_eq_true rfl, Nat.le_of_ble_eq_true rfl⟩ rfl 0 rfl rfl [0, 2] rfl rfl rfl rfl rfl (Nat.le_of_ble_eq_true rfl) (Nat.le_refl _) (Nat.le_refl _) rfl dX12_digest_242 ?_
      refine ii_lstore_n (lv' := [(1, .long c_31), (0, .ref a_this)]) dX12_digest_245 rfl (by decide) rfl ?_
      refine ii_aload_n 1 dX12_digest_246 rfl ?_
      refine ii_aload_n 1 dX12_digest_247 rfl ?_
      refine ii_lload_n 0 dX12_digest_248 rfl ?_
      refine ii_sipush dX12_digest_249 ks1933 ?_
      refine ii_iconst dX12_digest_252 kc3 ?_
      refine ii_aload_n 1 dX12_digest_253 rfl ?_
      refine ii_get (C := RX12) (T := TX12) (N := 25) (ci := 12) izX12 0 rfl rfl 0 (by decide) kX12_7 rfl dX12_digest_254 ?_
      refine ii_bipush dX12_digest_257 kb10 ?_
      refine ii_iald h 2 0 rfl rfl dX12_digest_259 (fun t_32 h => ?_)
      refine ii_imul dX12_digest_260 ?_
      obtain ⟨c_33, hc_33, h⟩ := bnd h
      refine ii_callVl (As := [.long c_31, .int (1933 : Int32), .int ((3 : Int32) * t_32)]) (ws' := [(a_this, .inr (12, [.ref a_this_st, .ref a_this_images, .ref a_this_isKept, .long v_this_above, .long v_this_below, .int v_this_steps, .ref a_this_step, .ref a_this_with, .int v_this_waiting, .ref a_this_waits, .ref a_this_value, .ref a_this_given, .ref a_this_net, .ref a_this_together, .ref a_this_most, .ref a_this_owes, .ref a_this_can, .ref a_this_row, .ref a_this_before, .ref a_this_to, .ref a_this_on, .ref a_this_load, .ref a_this_lead, .ref a_this_bestLead, .ref a_this_silver])), (a_this_given, .inl (cJ, 5, .inr (.inl v_this_given))), (a_this_st, .inl (cI, 1951, .inl v_this_st)), (a_this_step, .inl (cI, 70, .inl v_this_step)), (a_this_value, .inl (cJ, 70, .inr (.inl v_this_value))), (a_this_waits, .inl (cI, 70, .inl v_this_waits)), (a_this_with, .inl (cI, 70, .inl v_this_with))]) (st := [.ref a_this]) (c_X12_mixed l D cI cJ cZ cH a_this a_this_before a_this_bestLead a_this_can a_this_given a_this_images a_this_isKept a_this_lead a_this_load a_this_most a_this_net a_this_on a_this_owes a_this_row a_this_silver a_this_st a_this_step a_this_to a_this_together a_this_value a_this_waits a_this_with v_this_above v_this_below v_this_st v_this_steps v_this_waiting c_31 (1933 : Int32) ((3 : Int32) * t_32) hc_33) gzX12_300 rfl rfl rfl eV_X12_mixed ⟨Nat.le_of_ble_eq_true rfl, Nat.le_of_ble_eq_true rfl⟩ rfl 0 rfl rfl [0, 2] rfl rfl rfl rfl rfl (Nat.le_of_ble_eq_true rfl) (Nat.le_refl _) (Nat.le_refl _) rfl dX12_digest_261 ?_
      refine ii_bipush dX12_digest_264 kb13 ?_
      refine ii_iconst dX12_digest_266 kc3 ?_
      obtain ⟨c_34, hc_34, h⟩ := bnd h
      refine ii_callVl (As := [.long c_33, .int (13 : Int32), .int (3 : Int32)]) (ws' := [(a_this, .inr (12, [.ref a_this_st, .ref a_this_images, .ref a_this_isKept, .long v_this_above, .long v_this_below, .int v_this_steps, .ref a_this_step, .ref a_this_with, .int v_this_waiting, .ref a_this_waits, .ref a_this_value, .ref a_this_given, .ref a_this_net, .ref a_this_together, .ref a_this_most, .ref a_this_owes, .ref a_this_can, .ref a_this_row, .ref a_this_before, .ref a_this_to, .ref a_this_on, .ref a_this_load, .ref a_this_lead, .ref a_this_bestLead, .ref a_this_silver])), (a_this_given, .inl (cJ, 5, .inr (.inl v_this_given))), (a_this_st, .inl (cI, 1951, .inl v_this_st)), (a_this_step, .inl (cI, 70, .inl v_this_step)), (a_this_value, .inl (cJ, 70, .inr (.inl v_this_value))), (a_this_waits, .inl (cI, 70, .inl v_this_waits)), (a_this_with, .inl (cI, 70, .inl v_this_with))]) (st := []) (c_X12_mixed l D cI cJ cZ cH a_this a_this_before a_this_bestLead a_this_can a_this_given a_this_images a_this_isKept a_this_lead a_this_load a_this_most a_this_net a_this_on a_this_owes a_this_row a_this_silver a_this_st a_this_step a_this_to a_this_together a_this_value a_this_waits a_this_with v_this_above v_this_below v_this_st v_this_steps v_this_waiting c_33 (13 : Int32) (3 : Int32) hc_34) gzX12_300 rfl rfl rfl eV_X12_mixed ⟨Nat.le_of_ble_eq_true rfl, Nat.le_of_ble_eq_true rfl⟩ rfl 0 rfl rfl [0, 2] rfl rfl rfl rfl rfl (Nat.le_of_ble_eq_true rfl) (Nat.le_refl _) (Nat.le_refl _) rfl dX12_digest_267 ?_
      refine ii_lstore_n (lv' := [(1, .long c_34), (0, .ref a_this)]) dX12_digest_270 rfl (by decide) rfl ?_
      refine ii_iconst dX12_digest_271 kc0 ?_
      refine ii_istore_n (lv' := [(3, .int (0 : Int32)), (1, .long c_34), (0, .ref a_this)]) dX12_digest_272 rfl (by decide) rfl ?_
      refine ii_lv [2, 1, 0] rfl ?_
      obtain ⟨x_36, hl_35, h⟩ := bnd h
      refine ii_loopX (fun s_35 => [(a_this, .inr (12, [.ref a_this_st, .ref a_this_images, .ref a_this_isKept, .long v_this_above, .long v_this_below, .int v_this_steps, .ref a_this_step, .ref a_this_with, .int v_this_waiting, .ref a_this_waits, .ref a_this_value, .ref a_this_given, .ref a_this_net, .ref a_this_together, .ref a_this_most, .ref a_this_owes, .ref a_this_can, .ref a_this_row, .ref a_this_before, .ref a_this_to, .ref a_this_on, .ref a_this_load, .ref a_this_lead, .ref a_this_bestLead, .ref a_this_silver])), (a_this_given, .inl (cJ, 5, .inr (.inl v_this_given))), (a_this_st, .inl (cI, 1951, .inl v_this_st)), (a_this_step, .inl (cI, 70, .inl v_this_step)), (a_this_value, .inl (cJ, 70, .inr (.inl v_this_value))), (a_this_waits, .inl (cI, 70, .inl v_this_waits)), (a_this_with, .inl (cI, 70, .inl v_this_with))]) (fun s_35 => [(0, .ref a_this), (1, .long s_35.1), (3, .int s_35.2)]) (fun x_36 => [(a_this, .inr (12, [.ref a_this_st, .ref a_this_images, .ref a_this_isKept, .long v_this_above, .long v_this_below, .int v_this_steps, .ref a_this_step, .ref a_this_with, .int v_this_waiting, .ref a_this_waits, .ref a_this_value, .ref a_this_given, .ref a_this_net, .ref a_this_together, .ref a_this_most, .ref a_this_owes, .ref a_this_can, .ref a_this_row, .ref a_this_before, .ref a_this_to, .ref a_this_on, .ref a_this_load, .ref a_this_lead, .ref a_this_bestLead, .ref a_this_silver])), (a_this_given, .inl (cJ, 5, .inr (.inl v_this_given))), (a_this_st, .inl (cI, 1951, .inl v_this_st)), (a_this_step, .inl (cI, 70, .inl v_this_step)), (a_this_value, .inl (cJ, 70, .inr (.inl v_this_value))), (a_this_waits, .inl (cI, 70, .inl v_this_waits)), (a_this_with, .inl (cI, 70, .inl v_this_with))]) (fun x_36 => [(0, .ref a_this), (1, .long x_36.1)]) 311 hl_35 rfl rfl ?_ (fun s_35 o h hb_35 hr_35 hx_35 => ?_)
      · skip
        refine ii_iconst dX12_digest_311 kc0 ?_
        refine ii_istore_n (lv' := [(3, .int (0 : Int32)), (0, .ref a_this), (1, .long x_36.1)]) dX12_digest_312 rfl (by decide) rfl ?_
        refine ii_lv [1, 2, 0] rfl ?_
        obtain ⟨x_41, hl_40, h⟩ := bnd h
        refine ii_loopX (fun s_40 => [(a_this, .inr (12, [.ref a_this_st, .ref a_this_images, .ref a_this_isKept, .long v_this_above, .long v_this_below, .int s_40.2.2.2.2.1, .ref a_this_step, .ref a_this_with, .int s_40.2.2.2.2.2.2.1, .ref a_this_waits, .ref a_this_value, .ref a_this_given, .ref a_this_net, .ref a_this_together, .ref a_this_most, .ref a_this_owes, .ref a_this_can, .ref a_this_row, .ref a_this_before, .ref a_this_to, .ref a_this_on, .ref a_this_load, .ref a_this_lead, .ref a_this_bestLead, .ref a_this_silver])), (a_this_given, .inl (cJ, 5, .inr (.inl s_40.2.2.1))), (a_this_st, .inl (cI, 1951, .inl v_this_st)), (a_this_step, .inl (cI, 70, .inl s_40.2.2.2.1)), (a_this_value, .inl (cJ, 70, .inr (.inl s_40.2.2.2.2.2.1))), (a_this_waits, .inl (cI, 70, .inl s_40.2.2.2.2.2.2.2.1)), (a_this_with, .inl (cI, 70, .inl s_40.2.2.2.2.2.2.2.2))]) (fun s_40 => [(0, .ref a_this), (1, .long s_40.1), (3, .int s_40.2.1)]) (fun x_41 => [(a_this, .inr (12, [.ref a_this_st, .ref a_this_images, .ref a_this_isKept, .long v_this_above, .long v_this_below, .int x_41.2.2.2.2.1, .ref a_this_step, .ref a_this_with, .int x_41.2.2.2.2.2.2.1, .ref a_this_waits, .ref a_this_value, .ref a_this_given, .ref a_this_net, .ref a_this_together, .ref a_this_most, .ref a_this_owes, .ref a_this_can, .ref a_this_row, .ref a_this_before, .ref a_this_to, .ref a_this_on, .ref a_this_load, .ref a_this_lead, .ref a_this_bestLead, .ref a_this_silver])), (a_this_given, .inl (cJ, 5, .inr (.inl x_41.2.2.1))), (a_this_st, .inl (cI, 1951, .inl v_this_st)), (a_this_step, .inl (cI, 70, .inl x_41.2.2.2.1)), (a_this_value, .inl (cJ, 70, .inr (.inl x_41.2.2.2.2.2.1))), (a_this_waits, .inl (cI, 70, .inl x_41.2.2.2.2.2.2.2.1)), (a_this_with, .inl (cI, 70, .inl x_41.2.2.2.2.2.2.2.2))]) (fun x_41 => [(0, .ref a_this), (1, .long x_41.1)]) 343 hl_40 rfl rfl ?_ (fun s_40 o h hb_40 hr_40 hx_40 => ?_)
        · skip
          refine ii_ldc2 (v := 31) dX12_digest_343 kX12_296 ?_
          refine ii_ldc2 (v := 31) dX12_digest_346 kX12_296 ?_
          refine ii_lload_n 1 dX12_digest_349 rfl ?_
          refine ii_lmul dX12_digest_350 ?_
          refine ii_aload_n 0 dX12_digest_351 rfl ?_
          refine ii_get (C := RX12) (T := TX12) (N := 25) (ci := 12) izX12 0 rfl rfl 3 (by decide) kX12_227 rfl dX12_digest_352 ?_
          refine ii_ladd dX12_digest_355 ?_
          refine ii_lmul dX12_digest_356 ?_
          refine ii_aload_n 0 dX12_digest_357 rfl ?_
          refine ii_get (C := RX12) (T := TX12) (N := 25) (ci := 12) izX12 0 rfl rfl 4 (by decide) kX12_75 rfl dX12_digest_358 ?_
          refine ii_ladd dX12_digest_361 ?_
          cases h
          exact hQ _ _ dX12_digest_362
        · skip
          refine ii_iload_n 2 dX12_digest_313 rfl ?_
          refine ii_aload_n 0 dX12_digest_314 rfl ?_
          refine ii_get (C := RX12) (T := TX12) (N := 25) (ci := 12) izX12 0 rfl rfl 0 (by decide) kX12_7 rfl dX12_digest_315 ?_
          refine ii_iconst dX12_digest_318 kc0 ?_
          refine ii_iald h 2 0 rfl rfl dX12_digest_319 (fun t_42 h => ?_)
          refine ii_icmp_ge (tgt := 343) h dX12_digest_320 (by decide) (fun h => ?_) (fun h => ?_)
          · skip
            refine ii_lv [0, 1] rfl ?_
            cases h
            exact hx_40 (s_40.1, s_40.2.1, s_40.2.2.1, s_40.2.2.2.1, s_40.2.2.2.2.1, s_40.2.2.2.2.2.1, s_40.2.2.2.2.2.2.1, s_40.2.2.2.2.2.2.2.1, s_40.2.2.2.2.2.2.2.2) (hr_40 _ rfl)
          · skip
            refine ii_ldc2 (v := 31) dX12_digest_323 kX12_296 ?_
            refine ii_lload_n 1 dX12_digest_326 rfl ?_
            refine ii_lmul dX12_digest_327 ?_
            refine ii_aload_n 0 dX12_digest_328 rfl ?_
            refine ii_iload_n 2 dX12_digest_329 rfl ?_
            refine ii_bipush dX12_digest_330 kb99 ?_
            obtain ⟨c_43, hc_43, h⟩ := bnd h
            refine ii_callVl (As := [.int s_40.2.1, .int (99 : Int32)]) (ws' := [(a_this, .inr (12, [.ref a_this_st, .ref a_this_images, .ref a_this_isKept, .long v_this_above, .long v_this_below, .int c_43.2.2.2.1, .ref a_this_step, .ref a_this_with, .int c_43.2.2.2.2.2.1, .ref a_this_waits, .ref a_this_value, .ref a_this_given, .ref a_this_net, .ref a_this_together, .ref a_this_most, .ref a_this_owes, .ref a_this_can, .ref a_this_row, .ref a_this_before, .ref a_this_to, .ref a_this_on, .ref a_this_load, .ref a_this_lead, .ref a_this_bestLead, .ref a_this_silver])), (a_this_given, .inl (cJ, 5, .inr (.inl c_43.2.1))), (a_this_st, .inl (cI, 1951, .inl v_this_st)), (a_this_step, .inl (cI, 70, .inl c_43.2.2.1)), (a_this_value, .inl (cJ, 70, .inr (.inl c_43.2.2.2.2.1))), (a_this_waits, .inl (cI, 70, .inl c_43.2.2.2.2.2.2.1)), (a_this_with, .inl (cI, 70, .inl c_43.2.2.2.2.2.2.2))]) (st := [.long ((31 : Int64) * s_40.1)]) (c_X12_balanceOf l D cI cJ cZ cH a_this a_this_before a_this_bestLead a_this_can a_this_given a_this_images a_this_isKept a_this_lead a_this_load a_this_most a_this_net a_this_on a_this_owes a_this_row a_this_silver a_this_st a_this_step a_this_to a_this_together a_this_value a_this_waits a_this_with v_this_above v_this_below s_40.2.2.1 v_this_st s_40.2.2.2.1 s_40.2.2.2.2.1 s_40.2.2.2.2.2.1 s_40.2.2.2.2.2.2.1 s_40.2.2.2.2.2.2.2.1 s_40.2.2.2.2.2.2.2.2 s_40.2.1 (99 : Int32) hc_43) gzX12_234 rfl rfl rfl eV_X12_balanceOf ⟨Nat.le_of_ble_eq_true rfl, Nat.le_of_ble_eq_true rfl⟩ rfl 0 rfl rfl [0, 1, 2, 3, 4, 5, 6] rfl rfl rfl rfl rfl (Nat.le_of_ble_eq_true rfl) (Nat.le_refl _) (Nat.le_refl _) rfl dX12_digest_332 ?_
            refine ii_ladd dX12_digest_335 ?_
            refine ii_topL h (fun x_44 h => ?_)
            refine ii_lstore_n (lv' := [(1, .long x_44), (0, .ref a_this), (3, .int s_40.2.1)]) dX12_digest_336 rfl (by decide) rfl ?_
            refine ii_iinc (fun x_45 => [(3, .int x_45), (1, .long x_44), (0, .ref a_this)]) h 2 dX12_digest_337 rfl kc1 (by decide) (fun _ => rfl) (fun x_45 h => ?_)
            refine ii_goto (tgt := 313) dX12_digest_340 (by decide) ?_
            refine ii_lv [2, 1, 0] rfl ?_
            cases h
            exact hb_40 (x_44, x_45, c_43.2.1, c_43.2.2.1, c_43.2.2.2.1, c_43.2.2.2.2.1, c_43.2.2.2.2.2.1, c_43.2.2.2.2.2.2.1, c_43.2.2.2.2.2.2.2) rfl
      · skip
        refine ii_iload_n 2 dX12_digest_273 rfl ?_
        refine ii_iconst dX12_digest_274 kc4 ?_
        refine ii_icmp_ge (tgt := 311) h dX12_digest_275 (by decide) (fun h => ?_) (fun h => ?_)
        · skip
          refine ii_lv [0, 1] rfl ?_
          cases h
          exact hx_35 (s_35.1, s_35.2) (hr_35 _ rfl)
        · skip
          refine ii_aload_n 0 dX12_digest_278 rfl ?_
          refine ii_lload_n 1 dX12_digest_279 rfl ?_
          refine ii_bipush dX12_digest_280 kb40 ?_
          refine ii_bipush dX12_digest_282 kb51 ?_
          refine ii_iload_n 2 dX12_digest_284 rfl ?_
          refine ii_imul dX12_digest_285 ?_
          refine ii_iadd dX12_digest_286 ?_
          refine ii_iconst dX12_digest_287 kc1 ?_
          refine ii_aload_n 0 dX12_digest_288 rfl ?_
          refine ii_get (C := RX12) (T := TX12) (N := 25) (ci := 12) izX12 0 rfl rfl 0 (by decide) kX12_7 rfl dX12_digest_289 ?_
          refine ii_bipush dX12_digest_292 kb40 ?_
          refine ii_bipush dX12_digest_294 kb51 ?_
          refine ii_iload_n 2 dX12_digest_296 rfl ?_
          refine ii_imul dX12_digest_297 ?_
          refine ii_iadd dX12_digest_298 ?_
          refine ii_iald h 2 0 rfl rfl dX12_digest_299 (fun t_37 h => ?_)
          refine ii_iadd dX12_digest_300 ?_
          obtain ⟨c_38, hc_38, h⟩ := bnd h
          refine ii_callVl (As := [.long s_35.1, .int ((40 : Int32) + ((51 : Int32) * s_35.2)), .int ((1 : Int32) + t_37)]) (ws' := [(a_this, .inr (12, [.ref a_this_st, .ref a_this_images, .ref a_this_isKept, .long v_this_above, .long v_this_below, .int v_this_steps, .ref a_this_step, .ref a_this_with, .int v_this_waiting, .ref a_this_waits, .ref a_this_value, .ref a_this_given, .ref a_this_net, .ref a_this_together, .ref a_this_most, .ref a_this_owes, .ref a_this_can, .ref a_this_row, .ref a_this_before, .ref a_this_to, .ref a_this_on, .ref a_this_load, .ref a_this_lead, .ref a_this_bestLead, .ref a_this_silver])), (a_this_given, .inl (cJ, 5, .inr (.inl v_this_given))), (a_this_st, .inl (cI, 1951, .inl v_this_st)), (a_this_step, .inl (cI, 70, .inl v_this_step)), (a_this_value, .inl (cJ, 70, .inr (.inl v_this_value))), (a_this_waits, .inl (cI, 70, .inl v_this_waits)), (a_this_with, .inl (cI, 70, .inl v_this_with))]) (st := []) (c_X12_mixed l D cI cJ cZ cH a_this a_this_before a_this_bestLead a_this_can a_this_given a_this_images a_this_isKept a_this_lead a_this_load a_this_most a_this_net a_this_on a_this_owes a_this_row a_this_silver a_this_st a_this_step a_this_to a_this_together a_this_value a_this_waits a_this_with v_this_above v_this_below v_this_st v_this_steps v_this_waiting s_35.1 ((40 : Int32) + ((51 : Int32) * s_35.2)) ((1 : Int32) + t_37) hc_38) gzX12_300 rfl rfl rfl eV_X12_mixed ⟨Nat.le_of_ble_eq_true rfl, Nat.le_of_ble_eq_true rfl⟩ rfl 0 rfl rfl [0, 2] rfl rfl rfl rfl rfl (Nat.le_of_ble_eq_true rfl) (Nat.le_refl _) (Nat.le_refl _) rfl dX12_digest_301 ?_
          refine ii_lstore_n (lv' := [(1, .long c_38), (0, .ref a_this), (3, .int s_35.2)]) dX12_digest_304 rfl (by decide) rfl ?_
          refine ii_iinc (fun x_39 => [(3, .int x_39), (1, .long c_38), (0, .ref a_this)]) h 2 dX12_digest_305 rfl kc1 (by decide) (fun _ => rfl) (fun x_39 h => ?_)
          refine ii_goto (tgt := 273) dX12_digest_308 (by decide) ?_
          refine ii_lv [2, 1, 0] rfl ?_
          cases h
          exact hb_35 (c_38, x_39) rfl
    · skip
      refine ii_iload_n 2 dX12_digest_111 rfl ?_
      refine ii_aload_n 0 dX12_digest_112 rfl ?_
      refine ii_get (C := RX12) (T := TX12) (N := 25) (ci := 12) izX12 0 rfl rfl 0 (by decide) kX12_7 rfl dX12_digest_113 ?_
      refine ii_iconst dX12_digest_116 kc4 ?_
      refine ii_iald h 2 0 rfl rfl dX12_digest_117 (fun t_16 h => ?_)
      refine ii_icmp_ge (tgt := 149) h dX12_digest_118 (by decide) (fun h => ?_) (fun h => ?_)
      · skip
        refine ii_lv [0, 1] rfl ?_
        cases h
        exact hx_14 (s_14.1, s_14.2) (hr_14 _ rfl)
      · skip
        refine ii_aload_n 0 dX12_digest_121 rfl ?_
        refine ii_lload_n 1 dX12_digest_122 rfl ?_
        refine ii_sipush dX12_digest_123 ks1552 ?_
        refine ii_bipush dX12_digest_126 kb13 ?_
        refine ii_iload_n 2 dX12_digest_128 rfl ?_
        refine ii_imul dX12_digest_129 ?_
        refine ii_iadd dX12_digest_130 ?_
        refine ii_iconst dX12_digest_131 kc3 ?_
        refine ii_aload_n 0 dX12_digest_132 rfl ?_
        refine ii_get (C := RX12) (T := TX12) (N := 25) (ci := 12) izX12 0 rfl rfl 0 (by decide) kX12_7 rfl dX12_digest_133 ?_
        refine ii_iconst dX12_digest_136 kc0 ?_
        refine ii_iald h 2 0 rfl rfl dX12_digest_137 (fun t_17 h => ?_)
        refine ii_iadd dX12_digest_138 ?_
        obtain ⟨c_18, hc_18, h⟩ := bnd h
        refine ii_callVl (As := [.long s_14.1, .int ((1552 : Int32) + ((13 : Int32) * s_14.2)), .int ((3 : Int32) + t_17)]) (ws' := [(a_this, .inr (12, [.ref a_this_st, .ref a_this_images, .ref a_this_isKept, .long v_this_above, .long v_this_below, .int v_this_steps, .ref a_this_step, .ref a_this_with, .int v_this_waiting, .ref a_this_waits, .ref a_this_value, .ref a_this_given, .ref a_this_net, .ref a_this_together, .ref a_this_most, .ref a_this_owes, .ref a_this_can, .ref a_this_row, .ref a_this_before, .ref a_this_to, .ref a_this_on, .ref a_this_load, .ref a_this_lead, .ref a_this_bestLead, .ref a_this_silver])), (a_this_given, .inl (cJ, 5, .inr (.inl v_this_given))), (a_this_st, .inl (cI, 1951, .inl v_this_st)), (a_this_step, .inl (cI, 70, .inl v_this_step)), (a_this_value, .inl (cJ, 70, .inr (.inl v_this_value))), (a_this_waits, .inl (cI, 70, .inl v_this_waits)), (a_this_with, .inl (cI, 70, .inl v_this_with))]) (st := []) (c_X12_mixed l D cI cJ cZ cH a_this a_this_before a_this_bestLead a_this_can a_this_given a_this_images a_this_isKept a_this_lead a_this_load a_this_most a_this_net a_this_on a_this_owes a_this_row a_this_silver a_this_st a_this_step a_this_to a_this_together a_this_value a_this_waits a_this_with v_this_above v_this_below v_this_st v_this_steps v_this_waiting s_14.1 ((1552 : Int32) + ((13 : Int32) * s_14.2)) ((3 : Int32) + t_17) hc_18) gzX12_300 rfl rfl rfl eV_X12_mixed ⟨Nat.le_of_ble_eq_true rfl, Nat.le_of_ble_eq_true rfl⟩ rfl 0 rfl rfl [0, 2] rfl rfl rfl rfl rfl (Nat.le_of_ble_eq_true rfl) (Nat.le_refl _) (Nat.le_refl _) rfl dX12_digest_139 ?_
        refine ii_lstore_n (lv' := [(1, .long c_18), (0, .ref a_this), (3, .int s_14.2)]) dX12_digest_142 rfl (by decide) rfl ?_
        refine ii_iinc (fun x_19 => [(3, .int x_19), (1, .long c_18), (0, .ref a_this)]) h 2 dX12_digest_143 rfl kc1 (by decide) (fun _ => rfl) (fun x_19 h => ?_)
        refine ii_goto (tgt := 111) dX12_digest_146 (by decide) ?_
        refine ii_lv [2, 1, 0] rfl ?_
        cases h
        exact hb_14 (c_18, x_19) rfl
  · skip
    refine ii_iload_n 2 dX12_digest_29 rfl ?_
    refine ii_aload_n 0 dX12_digest_30 rfl ?_
    refine ii_get (C := RX12) (T := TX12) (N := 25) (ci := 12) izX12 0 rfl rfl 0 (by decide) kX12_7 rfl dX12_digest_31 ?_
    refine ii_iconst dX12_digest_34 kc1 ?_
    refine ii_iald h 2 0 rfl rfl dX12_digest_35 (fun t_6 h => ?_)
    refine ii_icmp_ge (tgt := 76) h dX12_digest_36 (by decide) (fun h => ?_) (fun h => ?_)
    · skip
      refine ii_lv [0, 1] rfl ?_
      cases h
      exact hx_4 (s_4.1, s_4.2) (hr_4 _ rfl)
    · skip
      refine ii_aload_n 0 dX12_digest_39 rfl ?_
      refine ii_lload_n 1 dX12_digest_40 rfl ?_
      refine ii_sipush dX12_digest_41 ks244 ?_
      refine ii_bipush dX12_digest_44 kb53 ?_
      refine ii_iload_n 2 dX12_digest_46 rfl ?_
      refine ii_imul dX12_digest_47 ?_
      refine ii_iadd dX12_digest_48 ?_
      refine ii_iconst dX12_digest_49 kc3 ?_
      refine ii_aload_n 0 dX12_digest_50 rfl ?_
      refine ii_get (C := RX12) (T := TX12) (N := 25) (ci := 12) izX12 0 rfl rfl 0 (by decide) kX12_7 rfl dX12_digest_51 ?_
      refine ii_sipush dX12_digest_54 ks244 ?_
      refine ii_bipush dX12_digest_57 kb53 ?_
      refine ii_iload_n 2 dX12_digest_59 rfl ?_
      refine ii_imul dX12_digest_60 ?_
      refine ii_iadd dX12_digest_61 ?_
      refine ii_iconst dX12_digest_62 kc2 ?_
      refine ii_iadd dX12_digest_63 ?_
      refine ii_iald h 2 0 rfl rfl dX12_digest_64 (fun t_7 h => ?_)
      refine ii_iadd dX12_digest_65 ?_
      obtain ⟨c_8, hc_8, h⟩ := bnd h
      refine ii_callVl (As := [.long s_4.1, .int ((244 : Int32) + ((53 : Int32) * s_4.2)), .int ((3 : Int32) + t_7)]) (ws' := [(a_this, .inr (12, [.ref a_this_st, .ref a_this_images, .ref a_this_isKept, .long v_this_above, .long v_this_below, .int v_this_steps, .ref a_this_step, .ref a_this_with, .int v_this_waiting, .ref a_this_waits, .ref a_this_value, .ref a_this_given, .ref a_this_net, .ref a_this_together, .ref a_this_most, .ref a_this_owes, .ref a_this_can, .ref a_this_row, .ref a_this_before, .ref a_this_to, .ref a_this_on, .ref a_this_load, .ref a_this_lead, .ref a_this_bestLead, .ref a_this_silver])), (a_this_given, .inl (cJ, 5, .inr (.inl v_this_given))), (a_this_st, .inl (cI, 1951, .inl v_this_st)), (a_this_step, .inl (cI, 70, .inl v_this_step)), (a_this_value, .inl (cJ, 70, .inr (.inl v_this_value))), (a_this_waits, .inl (cI, 70, .inl v_this_waits)), (a_this_with, .inl (cI, 70, .inl v_this_with))]) (st := []) (c_X12_mixed l D cI cJ cZ cH a_this a_this_before a_this_bestLead a_this_can a_this_given a_this_images a_this_isKept a_this_lead a_this_load a_this_most a_this_net a_this_on a_this_owes a_this_row a_this_silver a_this_st a_this_step a_this_to a_this_together a_this_value a_this_waits a_this_with v_this_above v_this_below v_this_st v_this_steps v_this_waiting s_4.1 ((244 : Int32) + ((53 : Int32) * s_4.2)) ((3 : Int32) + t_7) hc_8) gzX12_300 rfl rfl rfl eV_X12_mixed ⟨Nat.le_of_ble_eq_true rfl, Nat.le_of_ble_eq_true rfl⟩ rfl 0 rfl rfl [0, 2] rfl rfl rfl rfl rfl (Nat.le_of_ble_eq_true rfl) (Nat.le_refl _) (Nat.le_refl _) rfl dX12_digest_66 ?_
      refine ii_lstore_n (lv' := [(1, .long c_8), (0, .ref a_this), (3, .int s_4.2)]) dX12_digest_69 rfl (by decide) rfl ?_
      refine ii_iinc (fun x_9 => [(3, .int x_9), (1, .long c_8), (0, .ref a_this)]) h 2 dX12_digest_70 rfl kc1 (by decide) (fun _ => rfl) (fun x_9 h => ?_)
      refine ii_goto (tgt := 29) dX12_digest_73 (by decide) ?_
      refine ii_lv [2, 1, 0] rfl ?_
      cases h
      exact hb_4 (c_8, x_9) rfl
