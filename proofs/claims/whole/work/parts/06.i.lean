set_option maxHeartbeats 4000000 in
set_option maxRecDepth 100000 in
theorem c_X12_in (l : Launch) (D : va_G) (cI cJ cZ cH : ClassId) (p0 : Int64) (p1 : Int64) (p2 : Int64) {res : Int32} (h : F_X12_in p0 p1 p2 = some res) : CTi l yX12_in wzX12_in { frames := 0, cells := 0, slots := 0, locals := 0 } D [(cI, .int), (cJ, .long), (cZ, .boolean), (cH, .object "TinHouse$House")] [.long p0, .long p1, .long p2] [] res [] := by
  unfold F_X12_in at h
  refine ii_metZ (own := RX12) (lv0 := [(0, .long p0), (2, .long p1), (4, .long p2)]) (by decide) rfl rfl rfl (Nat.le_of_ble_eq_true rfl) (fun {p e s m args below meth c A Q} hQ => ?_)
  refine ii_lload_n 0 dX12_in_0 rfl ?_
  refine ii_lload_n 1 dX12_in_1 rfl ?_
  refine ii_jn h (fun j_1 => []) (fun j_1 => []) 18 (fun j_1 => [.int j_1]) (fun j_1 h => ?_) (fun j_1 h hjj_1 => ?_)
  · skip
    refine ii_topB h (fun t_2 hz_3 h => ?_)
    cases h
    exact hQ _ _ dX12_in_18 hz_3
  · skip
    refine ii_lcmp_lt (tgt := 17) h dX12_in_2 dX12_in_3 (by decide) (fun h => ?_) (fun h => ?_)
    · skip
      refine ii_iconst dX12_in_17 kc0 ?_
      refine ii_lv [] rfl ?_
      cases h
      exact hjj_1
    · skip
      refine ii_lload_n 0 dX12_in_6 rfl ?_
      refine ii_lload 2 dX12_in_7 rfl ?_
      refine ii_lcmp_gt (tgt := 17) h dX12_in_9 dX12_in_10 (by decide) (fun h => ?_) (fun h => ?_)
      · skip
        refine ii_iconst dX12_in_17 kc0 ?_
        refine ii_lv [] rfl ?_
        cases h
        exact hjj_1
      · skip
        refine ii_iconst dX12_in_13 kc1 ?_
        refine ii_goto (tgt := 18) dX12_in_14 (by decide) ?_
        refine ii_lv [] rfl ?_
        cases h
        exact hjj_1
set_option maxHeartbeats 4000000 in
set_option maxRecDepth 100000 in
theorem c_X12_is (l : Launch) (D : va_G) (cI cJ cZ cH : ClassId) (a_this a_this_before a_this_bestLead a_this_can a_this_given a_this_images a_this_isKept a_this_lead a_this_load a_this_most a_this_net a_this_on a_this_owes a_this_row a_this_silver a_this_st a_this_step a_this_to a_this_together a_this_value a_this_waits a_this_with : Nat) (v_this_above : Int64) (v_this_below : Int64) (v_this_st : Nat → Int32) (v_this_steps : Int32) (v_this_waiting : Int32) (p0 : Int32) (p1 : Int32) {res : Int32} (h : F_X12_is v_this_st p0 p1 = some res) : CTi l yX12_is wzX12_is { frames := 1, cells := 0, slots := 0, locals := 25 } D [(cI, .int), (cJ, .long), (cZ, .boolean), (cH, .object "TinHouse$House")] [.ref a_this, .int p0, .int p1] [(a_this, .inr (12, [.ref a_this_st, .ref a_this_images, .ref a_this_isKept, .long v_this_above, .long v_this_below, .int v_this_steps, .ref a_this_step, .ref a_this_with, .int v_this_waiting, .ref a_this_waits, .ref a_this_value, .ref a_this_given, .ref a_this_net, .ref a_this_together, .ref a_this_most, .ref a_this_owes, .ref a_this_can, .ref a_this_row, .ref a_this_before, .ref a_this_to, .ref a_this_on, .ref a_this_load, .ref a_this_lead, .ref a_this_bestLead, .ref a_this_silver])), (a_this_st, .inl (cI, 1951, .inl v_this_st))] res [(a_this, .inr (12, [.ref a_this_st, .ref a_this_images, .ref a_this_isKept, .long v_this_above, .long v_this_below, .int v_this_steps, .ref a_this_step, .ref a_this_with, .int v_this_waiting, .ref a_this_waits, .ref a_this_value, .ref a_this_given, .ref a_this_net, .ref a_this_together, .ref a_this_most, .ref a_this_owes, .ref a_this_can, .ref a_this_row, .ref a_this_before, .ref a_this_to, .ref a_this_on, .ref a_this_load, .ref a_this_lead, .ref a_this_bestLead, .ref a_this_silver])), (a_this_st, .inl (cI, 1951, .inl v_this_st))] := by
  unfold F_X12_is at h
  refine ii_metZ (own := RX12) (lv0 := [(0, .ref a_this), (1, .int p0), (2, .int p1)]) (by decide) rfl rfl rfl (Nat.le_of_ble_eq_true rfl) (fun {p e s m args below meth c A Q} hQ => ?_)
  refine ii_iload_n 2 dX12_is_0 rfl ?_
  refine ii_i2l dX12_is_1 ?_
  refine ii_lconst dX12_is_2 kl0 ?_
  refine ii_aload_n 0 dX12_is_3 rfl ?_
  refine ii_get (C := RX12) (T := TX12) (N := 25) (ci := 12) izX12 0 rfl rfl 0 (by decide) kX12_7 rfl dX12_is_4 ?_
  refine ii_iload_n 1 dX12_is_7 rfl ?_
  refine ii_iald h 1 0 rfl rfl dX12_is_8 (fun t_1 h => ?_)
  refine ii_iconst dX12_is_9 kc1 ?_
  refine ii_isub dX12_is_10 ?_
  refine ii_i2l dX12_is_11 ?_
  obtain ⟨c_2, hc_2, h⟩ := bnd h
  refine ii_callSi (As := [.long p1.toInt64, .long (0 : Int64), .long ((t_1 - (1 : Int32)).toInt64)]) (ws' := [(a_this, .inr (12, [.ref a_this_st, .ref a_this_images, .ref a_this_isKept, .long v_this_above, .long v_this_below, .int v_this_steps, .ref a_this_step, .ref a_this_with, .int v_this_waiting, .ref a_this_waits, .ref a_this_value, .ref a_this_given, .ref a_this_net, .ref a_this_together, .ref a_this_most, .ref a_this_owes, .ref a_this_can, .ref a_this_row, .ref a_this_before, .ref a_this_to, .ref a_this_on, .ref a_this_load, .ref a_this_lead, .ref a_this_bestLead, .ref a_this_silver])), (a_this_st, .inl (cI, 1951, .inl v_this_st))]) (st := []) (c_X12_in l D cI cJ cZ cH p1.toInt64 (0 : Int64) ((t_1 - (1 : Int32)).toInt64) hc_2) gzX12_79 rfl rfl rfl eS_X12_in ⟨Nat.le_of_ble_eq_true rfl, Nat.le_of_ble_eq_true rfl⟩ rfl [] rfl rfl rfl rfl rfl (Nat.le_of_ble_eq_true rfl) (Nat.le_refl _) (Nat.le_refl _) rfl dX12_is_12 ?_
  refine ii_topB h (fun t_3 hz_4 h => ?_)
  cases h
  exact hQ _ _ dX12_is_15 hz_4
set_option maxHeartbeats 4000000 in
set_option maxRecDepth 100000 in
theorem c_X12_one (l : Launch) (D : va_G) (cI cJ cZ cH : ClassId) (a_this a_this_before a_this_bestLead a_this_can a_this_given a_this_images a_this_isKept a_this_lead a_this_load a_this_most a_this_net a_this_on a_this_owes a_this_row a_this_silver a_this_st a_this_step a_this_to a_this_together a_this_value a_this_waits a_this_with : Nat) (v_this_above : Int64) (v_this_below : Int64) (v_this_st : Nat → Int32) (v_this_steps : Int32) (v_this_waiting : Int32) (p0 : Int32) {res : Int32 × (Nat → Int32)} (h : F_X12_one v_this_st p0 = some res) : CTi l yX12_one wzX12_one { frames := 0, cells := 0, slots := 0, locals := 0 } D [(cI, .int), (cJ, .long), (cZ, .boolean), (cH, .object "TinHouse$House")] [.ref a_this, .int p0] [(a_this, .inr (12, [.ref a_this_st, .ref a_this_images, .ref a_this_isKept, .long v_this_above, .long v_this_below, .int v_this_steps, .ref a_this_step, .ref a_this_with, .int v_this_waiting, .ref a_this_waits, .ref a_this_value, .ref a_this_given, .ref a_this_net, .ref a_this_together, .ref a_this_most, .ref a_this_owes, .ref a_this_can, .ref a_this_row, .ref a_this_before, .ref a_this_to, .ref a_this_on, .ref a_this_load, .ref a_this_lead, .ref a_this_bestLead, .ref a_this_silver])), (a_this_st, .inl (cI, 1951, .inl v_this_st))] res.1 [(a_this, .inr (12, [.ref a_this_st, .ref a_this_images, .ref a_this_isKept, .long v_this_above, .long v_this_below, .int v_this_steps, .ref a_this_step, .ref a_this_with, .int v_this_waiting, .ref a_this_waits, .ref a_this_value, .ref a_this_given, .ref a_this_net, .ref a_this_together, .ref a_this_most, .ref a_this_owes, .ref a_this_can, .ref a_this_row, .ref a_this_before, .ref a_this_to, .ref a_this_on, .ref a_this_load, .ref a_this_lead, .ref a_this_bestLead, .ref a_this_silver])), (a_this_st, .inl (cI, 1951, .inl res.2))] := by
  unfold F_X12_one at h
  refine ii_metI (own := RX12) (lv0 := [(0, .ref a_this), (1, .int p0)]) (by decide) rfl rfl rfl (Nat.le_of_ble_eq_true rfl) (fun {p e s m args below meth c A Q} hQ => ?_)
  refine ii_aload_n 0 dX12_one_0 rfl ?_
  refine ii_get (C := RX12) (T := TX12) (N := 25) (ci := 12) izX12 0 rfl rfl 0 (by decide) kX12_7 rfl dX12_one_1 ?_
  refine ii_iload_n 1 dX12_one_4 rfl ?_
  refine ii_dup2 dX12_one_5 rfl rfl ?_
  refine ii_iald h 1 0 rfl rfl dX12_one_6 (fun t_1 h => ?_)
  refine ii_iconst dX12_one_7 kc1 ?_
  refine ii_iadd dX12_one_8 ?_
  refine ii_iast (fun g_2 => [(a_this, .inr (12, [.ref a_this_st, .ref a_this_images, .ref a_this_isKept, .long v_this_above, .long v_this_below, .int v_this_steps, .ref a_this_step, .ref a_this_with, .int v_this_waiting, .ref a_this_waits, .ref a_this_value, .ref a_this_given, .ref a_this_net, .ref a_this_together, .ref a_this_most, .ref a_this_owes, .ref a_this_can, .ref a_this_row, .ref a_this_before, .ref a_this_to, .ref a_this_on, .ref a_this_load, .ref a_this_lead, .ref a_this_bestLead, .ref a_this_silver])), (a_this_st, .inl (cI, 1951, .inl g_2))]) h 1 0 rfl rfl dX12_one_9 (fun _ => rfl) (fun g_2 h => ?_)
  refine ii_aload_n 0 dX12_one_10 rfl ?_
  refine ii_get (C := RX12) (T := TX12) (N := 25) (ci := 12) izX12 0 rfl rfl 0 (by decide) kX12_7 rfl dX12_one_11 ?_
  refine ii_iload_n 1 dX12_one_14 rfl ?_
  refine ii_iald h 1 0 rfl rfl dX12_one_15 (fun t_3 h => ?_)
  refine ii_iconst dX12_one_16 kc1 ?_
  refine ii_isub dX12_one_17 ?_
  cases h
  exact hQ _ _ dX12_one_18
set_option maxHeartbeats 4000000 in
set_option maxRecDepth 100000 in
theorem c_X12_puts (l : Launch) (D : va_G) (cI cJ cZ cH : ClassId) (a_this a_this_before a_this_bestLead a_this_can a_this_given a_this_images a_this_isKept a_this_lead a_this_load a_this_most a_this_net a_this_on a_this_owes a_this_row a_this_silver a_this_st a_this_step a_this_to a_this_together a_this_value a_this_waits a_this_with : Nat) (v_this_above : Int64) (v_this_below : Int64) (v_this_st : Nat → Int32) (v_this_steps : Int32) (v_this_waiting : Int32) (p0 : Int32) (p1 : Int32) {res : Int32 × (Nat → Int32)} (h : F_X12_puts v_this_st p0 p1 = some res) : CTi l yX12_puts wzX12_puts { frames := 0, cells := 0, slots := 0, locals := 0 } D [(cI, .int), (cJ, .long), (cZ, .boolean), (cH, .object "TinHouse$House")] [.ref a_this, .int p0, .int p1] [(a_this, .inr (12, [.ref a_this_st, .ref a_this_images, .ref a_this_isKept, .long v_this_above, .long v_this_below, .int v_this_steps, .ref a_this_step, .ref a_this_with, .int v_this_waiting, .ref a_this_waits, .ref a_this_value, .ref a_this_given, .ref a_this_net, .ref a_this_together, .ref a_this_most, .ref a_this_owes, .ref a_this_can, .ref a_this_row, .ref a_this_before, .ref a_this_to, .ref a_this_on, .ref a_this_load, .ref a_this_lead, .ref a_this_bestLead, .ref a_this_silver])), (a_this_st, .inl (cI, 1951, .inl v_this_st))] res.1 [(a_this, .inr (12, [.ref a_this_st, .ref a_this_images, .ref a_this_isKept, .long v_this_above, .long v_this_below, .int v_this_steps, .ref a_this_step, .ref a_this_with, .int v_this_waiting, .ref a_this_waits, .ref a_this_value, .ref a_this_given, .ref a_this_net, .ref a_this_together, .ref a_this_most, .ref a_this_owes, .ref a_this_can, .ref a_this_row, .ref a_this_before, .ref a_this_to, .ref a_this_on, .ref a_this_load, .ref a_this_lead, .ref a_this_bestLead, .ref a_this_silver])), (a_this_st, .inl (cI, 1951, .inl res.2))] := by
  unfold F_X12_puts at h
  refine ii_metI (own := RX12) (lv0 := [(0, .ref a_this), (1, .int p0), (2, .int p1)]) (by decide) rfl rfl rfl (Nat.le_of_ble_eq_true rfl) (fun {p e s m args below meth c A Q} hQ => ?_)
  refine ii_aload_n 0 dX12_puts_0 rfl ?_
  refine ii_get (C := RX12) (T := TX12) (N := 25) (ci := 12) izX12 0 rfl rfl 0 (by decide) kX12_7 rfl dX12_puts_1 ?_
  refine ii_iload_n 1 dX12_puts_4 rfl ?_
  refine ii_iald h 1 0 rfl rfl dX12_puts_5 (fun t_1 h => ?_)
  refine ii_istore_n (lv' := [(3, .int t_1), (0, .ref a_this), (1, .int p0), (2, .int p1)]) dX12_puts_6 rfl (by decide) rfl ?_
  refine ii_aload_n 1 dX12_puts_7 rfl ?_
  refine ii_get (C := RX12) (T := TX12) (N := 25) (ci := 12) izX12 0 rfl rfl 0 (by decide) kX12_7 rfl dX12_puts_8 ?_
  refine ii_iload_n 2 dX12_puts_11 rfl ?_
  refine ii_iload_n 3 dX12_puts_12 rfl ?_
  refine ii_iast (fun g_2 => [(a_this, .inr (12, [.ref a_this_st, .ref a_this_images, .ref a_this_isKept, .long v_this_above, .long v_this_below, .int v_this_steps, .ref a_this_step, .ref a_this_with, .int v_this_waiting, .ref a_this_waits, .ref a_this_value, .ref a_this_given, .ref a_this_net, .ref a_this_together, .ref a_this_most, .ref a_this_owes, .ref a_this_can, .ref a_this_row, .ref a_this_before, .ref a_this_to, .ref a_this_on, .ref a_this_load, .ref a_this_lead, .ref a_this_bestLead, .ref a_this_silver])), (a_this_st, .inl (cI, 1951, .inl g_2))]) h 1 0 rfl rfl dX12_puts_13 (fun _ => rfl) (fun g_2 h => ?_)
  refine ii_iload_n 0 dX12_puts_14 rfl ?_
  cases h
  exact hQ _ _ dX12_puts_15
set_option maxHeartbeats 4000000 in
set_option maxRecDepth 100000 in
theorem c_X12_isSeason (l : Launch) (D : va_G) (cI cJ cZ cH : ClassId) (p0 : Int32) {res : Int32} (h : F_X12_isSeason p0 = some res) : CTi l yX12_isSeason wzX12_isSeason { frames := 1, cells := 0, slots := 0, locals := 25 } D [(cI, .int), (cJ, .long), (cZ, .boolean), (cH, .object "TinHouse$House")] [.int p0] [] res [] := by
  unfold F_X12_isSeason at h
  refine ii_metZ (own := RX12) (lv0 := [(0, .int p0)]) (by decide) rfl rfl rfl (Nat.le_of_ble_eq_true rfl) (fun {p e s m args below meth c A Q} hQ => ?_)
  refine ii_iload_n 0 dX12_isSeason_0 rfl ?_
  refine ii_i2l dX12_isSeason_1 ?_
  refine ii_lconst dX12_isSeason_2 kl0 ?_
  refine ii_ldc2 (v := 99) dX12_isSeason_3 kX12_83 ?_
  obtain ⟨c_1, hc_1, h⟩ := bnd h
  refine ii_callSi (As := [.long p0.toInt64, .long (0 : Int64), .long (99 : Int64)]) (ws' := []) (st := []) (c_X12_in l D cI cJ cZ cH p0.toInt64 (0 : Int64) (99 : Int64) hc_1) gzX12_79 rfl rfl rfl eS_X12_in ⟨Nat.le_of_ble_eq_true rfl, Nat.le_of_ble_eq_true rfl⟩ rfl [] rfl rfl rfl rfl rfl (Nat.le_of_ble_eq_true rfl) (Nat.le_refl _) (Nat.le_refl _) rfl dX12_isSeason_6 ?_
  refine ii_topB h (fun t_2 hz_3 h => ?_)
  cases h
  exact hQ _ _ dX12_isSeason_9 hz_3
set_option maxHeartbeats 4000000 in
set_option maxRecDepth 100000 in
theorem c_X12_house (l : Launch) (D : va_G) (cI cJ cZ cH : ClassId) (a_this a_this_before a_this_bestLead a_this_can a_this_given a_this_images a_this_isKept a_this_lead a_this_load a_this_most a_this_net a_this_on a_this_owes a_this_row a_this_silver a_this_st a_this_step a_this_to a_this_together a_this_value a_this_waits a_this_with : Nat) (v_this_above : Int64) (v_this_below : Int64) (v_this_st : Nat → Int32) (v_this_steps : Int32) (v_this_waiting : Int32) (p0 : Int32) {res : Int32} (h : F_X12_house v_this_st p0 = some res) : CTi l yX12_house wzX12_house { frames := 0, cells := 0, slots := 0, locals := 0 } D [(cI, .int), (cJ, .long), (cZ, .boolean), (cH, .object "TinHouse$House")] [.ref a_this, .int p0] [(a_this, .inr (12, [.ref a_this_st, .ref a_this_images, .ref a_this_isKept, .long v_this_above, .long v_this_below, .int v_this_steps, .ref a_this_step, .ref a_this_with, .int v_this_waiting, .ref a_this_waits, .ref a_this_value, .ref a_this_given, .ref a_this_net, .ref a_this_together, .ref a_this_most, .ref a_this_owes, .ref a_this_can, .ref a_this_row, .ref a_this_before, .ref a_this_to, .ref a_this_on, .ref a_this_load, .ref a_this_lead, .ref a_this_bestLead, .ref a_this_silver])), (a_this_st, .inl (cI, 1951, .inl v_this_st))] res [(a_this, .inr (12, [.ref a_this_st, .ref a_this_images, .ref a_this_isKept, .long v_this_above, .long v_this_below, .int v_this_steps, .ref a_this_step, .ref a_this_with, .int v_this_waiting, .ref a_this_waits, .ref a_this_value, .ref a_this_given, .ref a_this_net, .ref a_this_together, .ref a_this_most, .ref a_this_owes, .ref a_this_can, .ref a_this_row, .ref a_this_before, .ref a_this_to, .ref a_this_on, .ref a_this_load, .ref a_this_lead, .ref a_this_bestLead, .ref a_this_silver])), (a_this_st, .inl (cI, 1951, .inl v_this_st))] := by
  unfold F_X12_house at h
  refine ii_metI (own := RX12) (lv0 := [(0, .ref a_this), (1, .int p0)]) (by decide) rfl rfl rfl (Nat.le_of_ble_eq_true rfl) (fun {p e s m args below meth c A Q} hQ => ?_)
  refine ii_aload_n 0 dX12_house_0 rfl ?_
  refine ii_get (C := RX12) (T := TX12) (N := 25) (ci := 12) izX12 0 rfl rfl 0 (by decide) kX12_7 rfl dX12_house_1 ?_
  refine ii_bipush dX12_house_4 kb20 ?_
  refine ii_iconst dX12_house_6 kc2 ?_
  refine ii_iload_n 1 dX12_house_7 rfl ?_
  refine ii_imul dX12_house_8 ?_
  refine ii_iadd dX12_house_9 ?_
  refine ii_iald h 1 0 rfl rfl dX12_house_10 (fun t_1 h => ?_)
  cases h
  exact hQ _ _ dX12_house_11
set_option maxHeartbeats 4000000 in
set_option maxRecDepth 100000 in
theorem c_X12_town (l : Launch) (D : va_G) (cI cJ cZ cH : ClassId) (a_this a_this_before a_this_bestLead a_this_can a_this_given a_this_images a_this_isKept a_this_lead a_this_load a_this_most a_this_net a_this_on a_this_owes a_this_row a_this_silver a_this_st a_this_step a_this_to a_this_together a_this_value a_this_waits a_this_with : Nat) (v_this_above : Int64) (v_this_below : Int64) (v_this_st : Nat → Int32) (v_this_steps : Int32) (v_this_waiting : Int32) (p0 : Int32) {res : Int32} (h : F_X12_town v_this_st p0 = some res) : CTi l yX12_town wzX12_town { frames := 0, cells := 0, slots := 0, locals := 0 } D [(cI, .int), (cJ, .long), (cZ, .boolean), (cH, .object "TinHouse$House")] [.ref a_this, .int p0] [(a_this, .inr (12, [.ref a_this_st, .ref a_this_images, .ref a_this_isKept, .long v_this_above, .long v_this_below, .int v_this_steps, .ref a_this_step, .ref a_this_with, .int v_this_waiting, .ref a_this_waits, .ref a_this_value, .ref a_this_given, .ref a_this_net, .ref a_this_together, .ref a_this_most, .ref a_this_owes, .ref a_this_can, .ref a_this_row, .ref a_this_before, .ref a_this_to, .ref a_this_on, .ref a_this_load, .ref a_this_lead, .ref a_this_bestLead, .ref a_this_silver])), (a_this_st, .inl (cI, 1951, .inl v_this_st))] res [(a_this, .inr (12, [.ref a_this_st, .ref a_this_images, .ref a_this_isKept, .long v_this_above, .long v_this_below, .int v_this_steps, .ref a_this_step, .ref a_this_with, .int v_this_waiting, .ref a_this_waits, .ref a_this_value, .ref a_this_given, .ref a_this_net, .ref a_this_together, .ref a_this_most, .ref a_this_owes, .ref a_this_can, .ref a_this_row, .ref a_this_before, .ref a_this_to, .ref a_this_on, .ref a_this_load, .ref a_this_lead, .ref a_this_bestLead, .ref a_this_silver])), (a_this_st, .inl (cI, 1951, .inl v_this_st))] := by
  unfold F_X12_town at h
  refine ii_metI (own := RX12) (lv0 := [(0, .ref a_this), (1, .int p0)]) (by decide) rfl rfl rfl (Nat.le_of_ble_eq_true rfl) (fun {p e s m args below meth c A Q} hQ => ?_)
  refine ii_aload_n 0 dX12_town_0 rfl ?_
  refine ii_get (C := RX12) (T := TX12) (N := 25) (ci := 12) izX12 0 rfl rfl 0 (by decide) kX12_7 rfl dX12_town_1 ?_
  refine ii_bipush dX12_town_4 kb20 ?_
  refine ii_iconst dX12_town_6 kc2 ?_
  refine ii_iload_n 1 dX12_town_7 rfl ?_
  refine ii_imul dX12_town_8 ?_
  refine ii_iadd dX12_town_9 ?_
  refine ii_iconst dX12_town_10 kc1 ?_
  refine ii_iadd dX12_town_11 ?_
  refine ii_iald h 1 0 rfl rfl dX12_town_12 (fun t_1 h => ?_)
  cases h
  exact hQ _ _ dX12_town_13
set_option maxHeartbeats 4000000 in
set_option maxRecDepth 100000 in
theorem c_X12_kin (l : Launch) (D : va_G) (cI cJ cZ cH : ClassId) (a_this a_this_before a_this_bestLead a_this_can a_this_given a_this_images a_this_isKept a_this_lead a_this_load a_this_most a_this_net a_this_on a_this_owes a_this_row a_this_silver a_this_st a_this_step a_this_to a_this_together a_this_value a_this_waits a_this_with : Nat) (v_this_above : Int64) (v_this_below : Int64) (v_this_st : Nat → Int32) (v_this_steps : Int32) (v_this_waiting : Int32) (p0 : Int32) (p1 : Int32) {res : Int32} (h : F_X12_kin v_this_st p0 p1 = some res) : CTi l yX12_kin wzX12_kin { frames := 1, cells := 0, slots := 0, locals := 21 } D [(cI, .int), (cJ, .long), (cZ, .boolean), (cH, .object "TinHouse$House")] [.ref a_this, .int p0, .int p1] [(a_this, .inr (12, [.ref a_this_st, .ref a_this_images, .ref a_this_isKept, .long v_this_above, .long v_this_below, .int v_this_steps, .ref a_this_step, .ref a_this_with, .int v_this_waiting, .ref a_this_waits, .ref a_this_value, .ref a_this_given, .ref a_this_net, .ref a_this_together, .ref a_this_most, .ref a_this_owes, .ref a_this_can, .ref a_this_row, .ref a_this_before, .ref a_this_to, .ref a_this_on, .ref a_this_load, .ref a_this_lead, .ref a_this_bestLead, .ref a_this_silver])), (a_this_st, .inl (cI, 1951, .inl v_this_st))] res [(a_this, .inr (12, [.ref a_this_st, .ref a_this_images, .ref a_this_isKept, .long v_this_above, .long v_this_below, .int v_this_steps, .ref a_this_step, .ref a_this_with, .int v_this_waiting, .ref a_this_waits, .ref a_this_value, .ref a_this_given, .ref a_this_net, .ref a_this_together, .ref a_this_most, .ref a_this_owes, .ref a_this_can, .ref a_this_row, .ref a_this_before, .ref a_this_to, .ref a_this_on, .ref a_this_load, .ref a_this_lead, .ref a_this_bestLead, .ref a_this_silver])), (a_this_st, .inl (cI, 1951, .inl v_this_st))] := by
  unfold F_X12_kin at h
  refine ii_metI (own := RX12) (lv0 := [(0, .ref a_this), (1, .int p0), (2, .int p1)]) (by decide) rfl rfl rfl (Nat.le_of_ble_eq_true rfl) (fun {p e s m args below meth c A Q} hQ => ?_)
  refine ii_aload_n 0 dX12_kin_0 rfl ?_
  refine ii_iload_n 1 dX12_kin_1 rfl ?_
  obtain ⟨c_1, hc_1, h⟩ := bnd h
  refine ii_callVi (As := [.int p0]) (ws' := [(a_this, .inr (12, [.ref a_this_st, .ref a_this_images, .ref a_this_isKept, .long v_this_above, .long v_this_below, .int v_this_steps, .ref a_this_step, .ref a_this_with, .int v_this_waiting, .ref a_this_waits, .ref a_this_value, .ref a_this_given, .ref a_this_net, .ref a_this_together, .ref a_this_most, .ref a_this_owes, .ref a_this_can, .ref a_this_row, .ref a_this_before, .ref a_this_to, .ref a_this_on, .ref a_this_load, .ref a_this_lead, .ref a_this_bestLead, .ref a_this_silver])), (a_this_st, .inl (cI, 1951, .inl v_this_st))]) (st := []) (c_X12_house l D cI cJ cZ cH a_this a_this_before a_this_bestLead a_this_can a_this_given a_this_images a_this_isKept a_this_lead a_this_load a_this_most a_this_net a_this_on a_this_owes a_this_row a_this_silver a_this_st a_this_step a_this_to a_this_together a_this_value a_this_waits a_this_with v_this_above v_this_below v_this_st v_this_steps v_this_waiting p0 hc_1) gzX12_85 rfl rfl rfl eV_X12_house ⟨Nat.le_of_ble_eq_true rfl, Nat.le_of_ble_eq_true rfl⟩ rfl 0 rfl rfl [0, 1] rfl rfl rfl rfl rfl (Nat.le_of_ble_eq_true rfl) (Nat.le_refl _) (Nat.le_refl _) rfl dX12_kin_2 ?_
  refine ii_aload_n 0 dX12_kin_5 rfl ?_
  refine ii_iload_n 2 dX12_kin_6 rfl ?_
  obtain ⟨c_2, hc_2, h⟩ := bnd h
  refine ii_callVi (As := [.int p1]) (ws' := [(a_this, .inr (12, [.ref a_this_st, .ref a_this_images, .ref a_this_isKept, .long v_this_above, .long v_this_below, .int v_this_steps, .ref a_this_step, .ref a_this_with, .int v_this_waiting, .ref a_this_waits, .ref a_this_value, .ref a_this_given, .ref a_this_net, .ref a_this_together, .ref a_this_most, .ref a_this_owes, .ref a_this_can, .ref a_this_row, .ref a_this_before, .ref a_this_to, .ref a_this_on, .ref a_this_load, .ref a_this_lead, .ref a_this_bestLead, .ref a_this_silver])), (a_this_st, .inl (cI, 1951, .inl v_this_st))]) (st := [.int c_1]) (c_X12_house l D cI cJ cZ cH a_this a_this_before a_this_bestLead a_this_can a_this_given a_this_images a_this_isKept a_this_lead a_this_load a_this_most a_this_net a_this_on a_this_owes a_this_row a_this_silver a_this_st a_this_step a_this_to a_this_together a_this_value a_this_waits a_this_with v_this_above v_this_below v_this_st v_this_steps v_this_waiting p1 hc_2) gzX12_85 rfl rfl rfl eV_X12_house ⟨Nat.le_of_ble_eq_true rfl, Nat.le_of_ble_eq_true rfl⟩ rfl 0 rfl rfl [0, 1] rfl rfl rfl rfl rfl (Nat.le_of_ble_eq_true rfl) (Nat.le_refl _) (Nat.le_refl _) rfl dX12_kin_7 ?_
  refine ii_jn h (fun j_3 => [(a_this, .inr (12, [.ref a_this_st, .ref a_this_images, .ref a_this_isKept, .long v_this_above, .long v_this_below, .int v_this_steps, .ref a_this_step, .ref a_this_with, .int v_this_waiting, .ref a_this_waits, .ref a_this_value, .ref a_this_given, .ref a_this_net, .ref a_this_together, .ref a_this_most, .ref a_this_owes, .ref a_this_can, .ref a_this_row, .ref a_this_before, .ref a_this_to, .ref a_this_on, .ref a_this_load, .ref a_this_lead, .ref a_this_bestLead, .ref a_this_silver])), (a_this_st, .inl (cI, 1951, .inl v_this_st))]) (fun j_3 => []) 18 (fun j_3 => [.int j_3]) (fun j_3 h => ?_) (fun j_3 h hjj_3 => ?_)
  · skip
    cases h
    exact hQ _ _ dX12_kin_18
  · skip
    refine ii_icmp_ne (tgt := 17) h dX12_kin_10 (by decide) (fun h => ?_) (fun h => ?_)
    · skip
      refine ii_iconst dX12_kin_17 kc0 ?_
      refine ii_lv [] rfl ?_
      cases h
      exact hjj_3
    · skip
      refine ii_iconst dX12_kin_13 kc1 ?_
      refine ii_goto (tgt := 18) dX12_kin_14 (by decide) ?_
      refine ii_lv [] rfl ?_
      cases h
      exact hjj_3
set_option maxHeartbeats 4000000 in
set_option maxRecDepth 100000 in
theorem c_X12_merchant (l : Launch) (D : va_G) (cI cJ cZ cH : ClassId) (a_this a_this_before a_this_bestLead a_this_can a_this_given a_this_images a_this_isKept a_this_lead a_this_load a_this_most a_this_net a_this_on a_this_owes a_this_row a_this_silver a_this_st a_this_step a_this_to a_this_together a_this_value a_this_waits a_this_with : Nat) (v_this_above : Int64) (v_this_below : Int64) (v_this_st : Nat → Int32) (v_this_steps : Int32) (v_this_waiting : Int32) (p0 : Int32) (p1 : Int32) {res : Int32 × (Nat → Int32)} (h : F_X12_merchant v_this_st p0 p1 = some res) : CTi l yX12_merchant wzX12_merchant { frames := 1, cells := 0, slots := 0, locals := 25 } D [(cI, .int), (cJ, .long), (cZ, .boolean), (cH, .object "TinHouse$House")] [.ref a_this, .int p0, .int p1] [(a_this, .inr (12, [.ref a_this_st, .ref a_this_images, .ref a_this_isKept, .long v_this_above, .long v_this_below, .int v_this_steps, .ref a_this_step, .ref a_this_with, .int v_this_waiting, .ref a_this_waits, .ref a_this_value, .ref a_this_given, .ref a_this_net, .ref a_this_together, .ref a_this_most, .ref a_this_owes, .ref a_this_can, .ref a_this_row, .ref a_this_before, .ref a_this_to, .ref a_this_on, .ref a_this_load, .ref a_this_lead, .ref a_this_bestLead, .ref a_this_silver])), (a_this_st, .inl (cI, 1951, .inl v_this_st))] res.1 [(a_this, .inr (12, [.ref a_this_st, .ref a_this_images, .ref a_this_isKept, .long v_this_above, .long v_this_below, .int v_this_steps, .ref a_this_step, .ref a_this_with, .int v_this_waiting, .ref a_this_waits, .ref a_this_value, .ref a_this_given, .ref a_this_net, .ref a_this_together, .ref a_this_most, .ref a_this_owes, .ref a_this_can, .ref a_this_row, .ref a_this_before, .ref a_this_to, .ref a_this_on, .ref a_this_load, .ref a_this_lead, .ref a_this_bestLead, .ref a_this_silver])), (a_this_st, .inl (cI, 1951, .inl res.2))] := by
  unfold F_X12_merchant at h
  refine ii_metI (own := RX12) (lv0 := [(0, .ref a_this), (1, .int p0), (2, .int p1)]) (by decide) rfl rfl rfl (Nat.le_of_ble_eq_true rfl) (fun {p e s m args below meth c A Q} hQ => ?_)
  refine ii_iload_n 1 dX12_merchant_0 rfl ?_
  refine ii_i2l dX12_merchant_1 ?_
  refine ii_lconst dX12_merchant_2 kl0 ?_
  refine ii_ldc2 (v := 4) dX12_merchant_3 kX12_89 ?_
  obtain ⟨c_1, hc_1, h⟩ := bnd h
  refine ii_callSi (As := [.long p0.toInt64, .long (0 : Int64), .long (4 : Int64)]) (ws' := [(a_this, .inr (12, [.ref a_this_st, .ref a_this_images, .ref a_this_isKept, .long v_this_above, .long v_this_below, .int v_this_steps, .ref a_this_step, .ref a_this_with, .int v_this_waiting, .ref a_this_waits, .ref a_this_value, .ref a_this_given, .ref a_this_net, .ref a_this_together, .ref a_this_most, .ref a_this_owes, .ref a_this_can, .ref a_this_row, .ref a_this_before, .ref a_this_to, .ref a_this_on, .ref a_this_load, .ref a_this_lead, .ref a_this_bestLead, .ref a_this_silver])), (a_this_st, .inl (cI, 1951, .inl v_this_st))]) (st := []) (c_X12_in l D cI cJ cZ cH p0.toInt64 (0 : Int64) (4 : Int64) hc_1) gzX12_79 rfl rfl rfl eS_X12_in ⟨Nat.le_of_ble_eq_true rfl, Nat.le_of_ble_eq_true rfl⟩ rfl [] rfl rfl rfl rfl rfl (Nat.le_of_ble_eq_true rfl) (Nat.le_refl _) (Nat.le_refl _) rfl dX12_merchant_6 ?_
  refine ii_if_eq (tgt := 22) h dX12_merchant_9 (by decide) (fun h => ?_) (fun h => ?_)
  · skip
    refine ii_bipush dX12_merchant_22 kbm2 ?_
    cases h
    exact hQ _ _ dX12_merchant_24
  · skip
    refine ii_iload_n 2 dX12_merchant_12 rfl ?_
    refine ii_i2l dX12_merchant_13 ?_
    refine ii_lconst dX12_merchant_14 kl0 ?_
    refine ii_lconst dX12_merchant_15 kl1 ?_
    obtain ⟨c_2, hc_2, h⟩ := bnd h
    refine ii_callSi (As := [.long p1.toInt64, .long (0 : Int64), .long (1 : Int64)]) (ws' := [(a_this, .inr (12, [.ref a_this_st, .ref a_this_images, .ref a_this_isKept, .long v_this_above, .long v_this_below, .int v_this_steps, .ref a_this_step, .ref a_this_with, .int v_this_waiting, .ref a_this_waits, .ref a_this_value, .ref a_this_given, .ref a_this_net, .ref a_this_together, .ref a_this_most, .ref a_this_owes, .ref a_this_can, .ref a_this_row, .ref a_this_before, .ref a_this_to, .ref a_this_on, .ref a_this_load, .ref a_this_lead, .ref a_this_bestLead, .ref a_this_silver])), (a_this_st, .inl (cI, 1951, .inl v_this_st))]) (st := []) (c_X12_in l D cI cJ cZ cH p1.toInt64 (0 : Int64) (1 : Int64) hc_2) gzX12_79 rfl rfl rfl eS_X12_in ⟨Nat.le_of_ble_eq_true rfl, Nat.le_of_ble_eq_true rfl⟩ rfl [] rfl rfl rfl rfl rfl (Nat.le_of_ble_eq_true rfl) (Nat.le_refl _) (Nat.le_refl _) rfl dX12_merchant_16 ?_
    refine ii_if_ne (tgt := 25) h dX12_merchant_19 (by decide) (fun h => ?_) (fun h => ?_)
    · skip
      refine ii_aload_n 0 dX12_merchant_25 rfl ?_
      refine ii_get (C := RX12) (T := TX12) (N := 25) (ci := 12) izX12 0 rfl rfl 0 (by decide) kX12_7 rfl dX12_merchant_26 ?_
      refine ii_iconst dX12_merchant_29 kc0 ?_
      refine ii_iald h 1 0 rfl rfl dX12_merchant_30 (fun t_3 h => ?_)
      refine ii_bipush dX12_merchant_31 kb10 ?_
      refine ii_icmp_ne (tgt := 39) h dX12_merchant_33 (by decide) (fun h => ?_) (fun h => ?_)
      · skip
        refine ii_aload_n 0 dX12_merchant_39 rfl ?_
        refine ii_get (C := RX12) (T := TX12) (N := 25) (ci := 12) izX12 0 rfl rfl 0 (by decide) kX12_7 rfl dX12_merchant_40 ?_
        refine ii_bipush dX12_merchant_43 kb20 ?_
        refine ii_iconst dX12_merchant_45 kc2 ?_
        refine ii_aload_n 0 dX12_merchant_46 rfl ?_
        refine ii_get (C := RX12) (T := TX12) (N := 25) (ci := 12) izX12 0 rfl rfl 0 (by decide) kX12_7 rfl dX12_merchant_47 ?_
        refine ii_iconst dX12_merchant_50 kc0 ?_
        refine ii_iald h 1 0 rfl rfl dX12_merchant_51 (fun t_4 h => ?_)
        refine ii_imul dX12_merchant_52 ?_
        refine ii_iadd dX12_merchant_53 ?_
        refine ii_iload_n 1 dX12_merchant_54 rfl ?_
        refine ii_iast (fun g_5 => [(a_this, .inr (12, [.ref a_this_st, .ref a_this_images, .ref a_this_isKept, .long v_this_above, .long v_this_below, .int v_this_steps, .ref a_this_step, .ref a_this_with, .int v_this_waiting, .ref a_this_waits, .ref a_this_value, .ref a_this_given, .ref a_this_net, .ref a_this_together, .ref a_this_most, .ref a_this_owes, .ref a_this_can, .ref a_this_row, .ref a_this_before, .ref a_this_to, .ref a_this_on, .ref a_this_load, .ref a_this_lead, .ref a_this_bestLead, .ref a_this_silver])), (a_this_st, .inl (cI, 1951, .inl g_5))]) h 1 0 rfl rfl dX12_merchant_55 (fun _ => rfl) (fun g_5 h => ?_)
        refine ii_aload_n 0 dX12_merchant_56 rfl ?_
        refine ii_get (C := RX12) (T := TX12) (N := 25) (ci := 12) izX12 0 rfl rfl 0 (by decide) kX12_7 rfl dX12_merchant_57 ?_
        refine ii_bipush dX12_merchant_60 kb20 ?_
        refine ii_iconst dX12_merchant_62 kc2 ?_
        refine ii_aload_n 0 dX12_merchant_63 rfl ?_
        refine ii_get (C := RX12) (T := TX12) (N := 25) (ci := 12) izX12 0 rfl rfl 0 (by decide) kX12_7 rfl dX12_merchant_64 ?_
        refine ii_iconst dX12_merchant_67 kc0 ?_
        refine ii_iald h 1 0 rfl rfl dX12_merchant_68 (fun t_6 h => ?_)
        refine ii_imul dX12_merchant_69 ?_
        refine ii_iadd dX12_merchant_70 ?_
        refine ii_iconst dX12_merchant_71 kc1 ?_
        refine ii_iadd dX12_merchant_72 ?_
        refine ii_iload_n 2 dX12_merchant_73 rfl ?_
        refine ii_iast (fun g_7 => [(a_this, .inr (12, [.ref a_this_st, .ref a_this_images, .ref a_this_isKept, .long v_this_above, .long v_this_below, .int v_this_steps, .ref a_this_step, .ref a_this_with, .int v_this_waiting, .ref a_this_waits, .ref a_this_value, .ref a_this_given, .ref a_this_net, .ref a_this_together, .ref a_this_most, .ref a_this_owes, .ref a_this_can, .ref a_this_row, .ref a_this_before, .ref a_this_to, .ref a_this_on, .ref a_this_load, .ref a_this_lead, .ref a_this_bestLead, .ref a_this_silver])), (a_this_st, .inl (cI, 1951, .inl g_7))]) h 1 0 rfl rfl dX12_merchant_74 (fun _ => rfl) (fun g_7 h => ?_)
        refine ii_aload_n 0 dX12_merchant_75 rfl ?_
        refine ii_iconst dX12_merchant_76 kc0 ?_
        obtain ⟨c_8, hc_8, h⟩ := bnd h
        refine ii_callVi (As := [.int (0 : Int32)]) (ws' := [(a_this, .inr (12, [.ref a_this_st, .ref a_this_images, .ref a_this_isKept, .long v_this_above, .long v_this_below, .int v_this_steps, .ref a_this_step, .ref a_this_with, .int v_this_waiting, .ref a_this_waits, .ref a_this_value, .ref a_this_given, .ref a_this_net, .ref a_this_together, .ref a_this_most, .ref a_this_owes, .ref a_this_can, .ref a_this_row, .ref a_this_before, .ref a_this_to, .ref a_this_on, .ref a_this_load, .ref a_this_lead, .ref a_this_bestLead, .ref a_this_silver])), (a_this_st, .inl (cI, 1951, .inl c_8.2))]) (st := []) (c_X12_one l D cI cJ cZ cH a_this a_this_before a_this_bestLead a_this_can a_this_given a_this_images a_this_isKept a_this_lead a_this_load a_this_most a_this_net a_this_on a_this_owes a_this_row a_this_silver a_this_st a_this_step a_this_to a_this_together a_this_value a_this_waits a_this_with v_this_above v_this_below g_7 v_this_steps v_this_waiting (0 : Int32) hc_8) gzX12_91 rfl rfl rfl eV_X12_one ⟨Nat.le_of_ble_eq_true rfl, Nat.le_of_ble_eq_true rfl⟩ rfl 0 rfl rfl [0, 1] rfl rfl rfl rfl rfl (Nat.le_of_ble_eq_true rfl) (Nat.le_refl _) (Nat.le_refl _) rfl dX12_merchant_77 ?_
        cases h
        exact hQ _ _ dX12_merchant_80
      · skip
        refine ii_bipush dX12_merchant_36 kbm4 ?_
        cases h
        exact hQ _ _ dX12_merchant_38
    · skip
      refine ii_bipush dX12_merchant_22 kbm2 ?_
      cases h
      exact hQ _ _ dX12_merchant_24
set_option maxHeartbeats 4000000 in
set_option maxRecDepth 100000 in
theorem c_X12_emits (l : Launch) (D : va_G) (cI cJ cZ cH : ClassId) (a_this a_this_before a_this_bestLead a_this_can a_this_given a_this_images a_this_isKept a_this_lead a_this_load a_this_most a_this_net a_this_on a_this_owes a_this_row a_this_silver a_this_st a_this_step a_this_to a_this_together a_this_value a_this_waits a_this_with : Nat) (v_this_above : Int64) (v_this_below : Int64) (v_this_step : Nat → Int32) (v_this_steps : Int32) (v_this_waiting : Int32) (v_this_with : Nat → Int32) (p0 : Int32) (p1 : Int32) {res : (Nat → Int32) × Int32 × (Nat → Int32)} (h : F_X12_emits v_this_step v_this_steps v_this_with p0 p1 = some res) : CTv l yX12_emits wzX12_emits { frames := 0, cells := 0, slots := 0, locals := 0 } D [(cI, .int), (cJ, .long), (cZ, .boolean), (cH, .object "TinHouse$House")] [.ref a_this, .int p0, .int p1] [(a_this, .inr (12, [.ref a_this_st, .ref a_this_images, .ref a_this_isKept, .long v_this_above, .long v_this_below, .int v_this_steps, .ref a_this_step, .ref a_this_with, .int v_this_waiting, .ref a_this_waits, .ref a_this_value, .ref a_this_given, .ref a_this_net, .ref a_this_together, .ref a_this_most, .ref a_this_owes, .ref a_this_can, .ref a_this_row, .ref a_this_before, .ref a_this_to, .ref a_this_on, .ref a_this_load, .ref a_this_lead, .ref a_this_bestLead, .ref a_this_silver])), (a_this_step, .inl (cI, 70, .inl v_this_step)), (a_this_with, .inl (cI, 70, .inl v_this_with))] [(a_this, .inr (12, [.ref a_this_st, .ref a_this_images, .ref a_this_isKept, .long v_this_above, .long v_this_below, .int res.2.1, .ref a_this_step, .ref a_this_with, .int v_this_waiting, .ref a_this_waits, .ref a_this_value, .ref a_this_given, .ref a_this_net, .ref a_this_together, .ref a_this_most, .ref a_this_owes, .ref a_this_can, .ref a_this_row, .ref a_this_before, .ref a_this_to, .ref a_this_on, .ref a_this_load, .ref a_this_lead, .ref a_this_bestLead, .ref a_this_silver])), (a_this_step, .inl (cI, 70, .inl res.1)), (a_this_with, .inl (cI, 70, .inl res.2.2))] := by
  unfold F_X12_emits at h
  refine ii_metV (own := RX12) (lv0 := [(0, .ref a_this), (1, .int p0), (2, .int p1)]) (by decide) rfl rfl rfl (Nat.le_of_ble_eq_true rfl) (fun {p e s m args below meth c A Q} hQ => ?_)
  refine ii_aload_n 0 dX12_emits_0 rfl ?_
  refine ii_get (C := RX12) (T := TX12) (N := 25) (ci := 12) izX12 0 rfl rfl 6 (by decide) kX12_20 rfl dX12_emits_1 ?_
  refine ii_aload_n 0 dX12_emits_4 rfl ?_
  refine ii_get (C := RX12) (T := TX12) (N := 25) (ci := 12) izX12 0 rfl rfl 5 (by decide) kX12_94 rfl dX12_emits_5 ?_
  refine ii_iload_n 1 dX12_emits_8 rfl ?_
  refine ii_iast (fun g_1 => [(a_this, .inr (12, [.ref a_this_st, .ref a_this_images, .ref a_this_isKept, .long v_this_above, .long v_this_below, .int v_this_steps, .ref a_this_step, .ref a_this_with, .int v_this_waiting, .ref a_this_waits, .ref a_this_value, .ref a_this_given, .ref a_this_net, .ref a_this_together, .ref a_this_most, .ref a_this_owes, .ref a_this_can, .ref a_this_row, .ref a_this_before, .ref a_this_to, .ref a_this_on, .ref a_this_load, .ref a_this_lead, .ref a_this_bestLead, .ref a_this_silver])), (a_this_step, .inl (cI, 70, .inl g_1)), (a_this_with, .inl (cI, 70, .inl v_this_with))]) h 1 0 rfl rfl dX12_emits_9 (fun _ => rfl) (fun g_1 h => ?_)
  refine ii_aload_n 0 dX12_emits_10 rfl ?_
  refine ii_get (C := RX12) (T := TX12) (N := 25) (ci := 12) izX12 0 rfl rfl 7 (by decide) kX12_23 rfl dX12_emits_11 ?_
  refine ii_aload_n 0 dX12_emits_14 rfl ?_
  refine ii_get (C := RX12) (T := TX12) (N := 25) (ci := 12) izX12 0 rfl rfl 5 (by decide) kX12_94 rfl dX12_emits_15 ?_
  refine ii_iload_n 2 dX12_emits_18 rfl ?_
  refine ii_iast (fun g_2 => [(a_this, .inr (12, [.ref a_this_st, .ref a_this_images, .ref a_this_isKept, .long v_this_above, .long v_this_below, .int v_this_steps, .ref a_this_step, .ref a_this_with, .int v_this_waiting, .ref a_this_waits, .ref a_this_value, .ref a_this_given, .ref a_this_net, .ref a_this_together, .ref a_this_most, .ref a_this_owes, .ref a_this_can, .ref a_this_row, .ref a_this_before, .ref a_this_to, .ref a_this_on, .ref a_this_load, .ref a_this_lead, .ref a_this_bestLead, .ref a_this_silver])), (a_this_step, .inl (cI, 70, .inl g_1)), (a_this_with, .inl (cI, 70, .inl g_2))]) h 2 0 rfl rfl dX12_emits_19 (fun _ => rfl) (fun g_2 h => ?_)
  refine ii_aload_n 0 dX12_emits_20 rfl ?_
  refine ii_dup dX12_emits_21 rfl ?_
  refine ii_get (C := RX12) (T := TX12) (N := 25) (ci := 12) izX12 0 rfl rfl 5 (by decide) kX12_94 rfl dX12_emits_22 ?_
  refine ii_iconst dX12_emits_25 kc1 ?_
  refine ii_iadd dX12_emits_26 ?_
  refine ii_topI h (fun x_3 h => ?_)
  refine ii_put (C := RX12) (T := TX12) (N := 25) (ci := 12) (ty0 := tyX12) (ws' := [(a_this, .inr (12, [.ref a_this_st, .ref a_this_images, .ref a_this_isKept, .long v_this_above, .long v_this_below, .int x_3, .ref a_this_step, .ref a_this_with, .int v_this_waiting, .ref a_this_waits, .ref a_this_value, .ref a_this_given, .ref a_this_net, .ref a_this_together, .ref a_this_most, .ref a_this_owes, .ref a_this_can, .ref a_this_row, .ref a_this_before, .ref a_this_to, .ref a_this_on, .ref a_this_load, .ref a_this_lead, .ref a_this_bestLead, .ref a_this_silver])), (a_this_step, .inl (cI, 70, .inl g_1)), (a_this_with, .inl (cI, 70, .inl g_2))]) izX12 tyX12_ok nmX12 0 rfl rfl 5 (by decide) kX12_94 rfl rfl rfl (Nat.le_of_ble_eq_true rfl) dX12_emits_27 rfl ?_
  cases h
  exact hQ _ _ dX12_emits_30
set_option maxHeartbeats 4000000 in
set_option maxRecDepth 100000 in
theorem c_X12_holds (l : Launch) (D : va_G) (cI cJ cZ cH : ClassId) (p0 : Int32) {res : Int32} (h : F_X12_holds p0 = some res) : CTi l yX12_holds wzX12_holds { frames := 0, cells := 0, slots := 0, locals := 0 } D [(cI, .int), (cJ, .long), (cZ, .boolean), (cH, .object "TinHouse$House")] [.int p0] [] res [] := by
  unfold F_X12_holds at h
  refine ii_metI (own := RX12) (lv0 := [(0, .int p0)]) (by decide) rfl rfl rfl (Nat.le_of_ble_eq_true rfl) (fun {p e s m args below meth c A Q} hQ => ?_)
  refine ii_iload_n 0 dX12_holds_0 rfl ?_
  refine ii_sw h (fun hq2 h => ?_) (fun hq2 h => ?_)
  · skip
    refine ii_tableIn (tgt := 60) (x := p0) (k0 := (2 : Int32)) (a := 2) dX12_holds_1 hq2 rfl (by decide) (by decide) rfl (by decide) ?_
    refine ii_bipush dX12_holds_60 kb6 ?_
    cases h
    exact hQ _ _ dX12_holds_62
  refine ii_sw h (fun hq3 h => ?_) (fun hq3 h => ?_)
  · skip
    refine ii_tableIn (tgt := 63) (x := p0) (k0 := (3 : Int32)) (a := 3) dX12_holds_1 hq3 rfl (by decide) (by decide) rfl (by decide) ?_
    refine ii_bipush dX12_holds_63 kb6 ?_
    cases h
    exact hQ _ _ dX12_holds_65
  refine ii_sw h (fun hq4 h => ?_) (fun hq4 h => ?_)
  · skip
    refine ii_tableIn (tgt := 66) (x := p0) (k0 := (4 : Int32)) (a := 4) dX12_holds_1 hq4 rfl (by decide) (by decide) rfl (by decide) ?_
    refine ii_iconst dX12_holds_66 kc5 ?_
    cases h
    exact hQ _ _ dX12_holds_67
  refine ii_sw h (fun hq5 h => ?_) (fun hq5 h => ?_)
  · skip
    refine ii_tableIn (tgt := 68) (x := p0) (k0 := (5 : Int32)) (a := 5) dX12_holds_1 hq5 rfl (by decide) (by decide) rfl (by decide) ?_
    refine ii_iconst dX12_holds_68 kc5 ?_
    cases h
    exact hQ _ _ dX12_holds_69
  refine ii_sw h (fun hq6 h => ?_) (fun hq6 h => ?_)
  · skip
    refine ii_tableIn (tgt := 70) (x := p0) (k0 := (6 : Int32)) (a := 6) dX12_holds_1 hq6 rfl (by decide) (by decide) rfl (by decide) ?_
    refine ii_iconst dX12_holds_70 kc4 ?_
    cases h
    exact hQ _ _ dX12_holds_71
  refine ii_sw h (fun hq7 h => ?_) (fun hq7 h => ?_)
  · skip
    refine ii_tableIn (tgt := 72) (x := p0) (k0 := (7 : Int32)) (a := 7) dX12_holds_1 hq7 rfl (by decide) (by decide) rfl (by decide) ?_
    refine ii_iconst dX12_holds_72 kc4 ?_
    cases h
    exact hQ _ _ dX12_holds_73
  refine ii_sw h (fun hq8 h => ?_) (fun hq8 h => ?_)
  · skip
    refine ii_tableIn (tgt := 74) (x := p0) (k0 := (8 : Int32)) (a := 8) dX12_holds_1 hq8 rfl (by decide) (by decide) rfl (by decide) ?_
    refine ii_iconst dX12_holds_74 kc3 ?_
    cases h
    exact hQ _ _ dX12_holds_75
  refine ii_sw h (fun hq9 h => ?_) (fun hq9 h => ?_)
  · skip
    refine ii_tableIn (tgt := 76) (x := p0) (k0 := (9 : Int32)) (a := 9) dX12_holds_1 hq9 rfl (by decide) (by decide) rfl (by decide) ?_
    refine ii_iconst dX12_holds_76 kc3 ?_
    cases h
    exact hQ _ _ dX12_holds_77
  refine ii_sw h (fun hq10 h => ?_) (fun hq10 h => ?_)
  · skip
    refine ii_tableIn (tgt := 78) (x := p0) (k0 := (10 : Int32)) (a := 10) dX12_holds_1 hq10 rfl (by decide) (by decide) rfl (by decide) ?_
    refine ii_iconst dX12_holds_78 kc3 ?_
    cases h
    exact hQ _ _ dX12_holds_79
  refine ii_sw h (fun hq11 h => ?_) (fun hq11 h => ?_)
  · skip
    refine ii_tableIn (tgt := 80) (x := p0) (k0 := (11 : Int32)) (a := 11) dX12_holds_1 hq11 rfl (by decide) (by decide) rfl (by decide) ?_
    refine ii_iconst dX12_holds_80 kc2 ?_
    cases h
    exact hQ _ _ dX12_holds_81
  refine ii_sw h (fun hq12 h => ?_) (fun hq12 h => ?_)
  · skip
    refine ii_tableIn (tgt := 82) (x := p0) (k0 := (12 : Int32)) (a := 12) dX12_holds_1 hq12 rfl (by decide) (by decide) rfl (by decide) ?_
    refine ii_iconst dX12_holds_82 kc1 ?_
    cases h
    exact hQ _ _ dX12_holds_83
  refine ii_tableOut (tgt := 84) dX12_holds_1 (by have n2 := lv_neT hq2 (a := 2) rfl; have n3 := lv_neT hq3 (a := 3) rfl; have n4 := lv_neT hq4 (a := 4) rfl; have n5 := lv_neT hq5 (a := 5) rfl; have n6 := lv_neT hq6 (a := 6) rfl; have n7 := lv_neT hq7 (a := 7) rfl; have n8 := lv_neT hq8 (a := 8) rfl; have n9 := lv_neT hq9 (a := 9) rfl; have n10 := lv_neT hq10 (a := 10) rfl; have n11 := lv_neT hq11 (a := 11) rfl; have n12 := lv_neT hq12 (a := 12) rfl; omega) (by decide) ?_
  refine ii_iconst dX12_holds_84 kc0 ?_
  cases h
  exact hQ _ _ dX12_holds_85
set_option maxHeartbeats 4000000 in
set_option maxRecDepth 100000 in
theorem c_X12_settles (l : Launch) (D : va_G) (cI cJ cZ cH : ClassId) (a_this a_this_before a_this_bestLead a_this_can a_this_given a_this_images a_this_isKept a_this_lead a_this_load a_this_most a_this_net a_this_on a_this_owes a_this_row a_this_silver a_this_st a_this_step a_this_to a_this_together a_this_value a_this_waits a_this_with : Nat) (v_this_above : Int64) (v_this_below : Int64) (v_this_step : Nat → Int32) (v_this_steps : Int32) (v_this_waiting : Int32) (v_this_waits : Nat → Int32) (v_this_with : Nat → Int32) (p0 : Int32) {res : (Nat → Int32) × Int32 × Int32 × (Nat → Int32)} (h : F_X12_settles v_this_step v_this_steps v_this_waiting v_this_waits v_this_with p0 = some res) : CTv l yX12_settles wzX12_settles { frames := 1, cells := 0, slots := 0, locals := 22 } D [(cI, .int), (cJ, .long), (cZ, .boolean), (cH, .object "TinHouse$House")] [.ref a_this, .int p0] [(a_this, .inr (12, [.ref a_this_st, .ref a_this_images, .ref a_this_isKept, .long v_this_above, .long v_this_below, .int v_this_steps, .ref a_this_step, .ref a_this_with, .int v_this_waiting, .ref a_this_waits, .ref a_this_value, .ref a_this_given, .ref a_this_net, .ref a_this_together, .ref a_this_most, .ref a_this_owes, .ref a_this_can, .ref a_this_row, .ref a_this_before, .ref a_this_to, .ref a_this_on, .ref a_this_load, .ref a_this_lead, .ref a_this_bestLead, .ref a_this_silver])), (a_this_step, .inl (cI, 70, .inl v_this_step)), (a_this_waits, .inl (cI, 70, .inl v_this_waits)), (a_this_with, .inl (cI, 70, .inl v_this_with))] [(a_this, .inr (12, [.ref a_this_st, .ref a_this_images, .ref a_this_isKept, .long v_this_above, .long v_this_below, .int res.2.1, .ref a_this_step, .ref a_this_with, .int res.2.2.1, .ref a_this_waits, .ref a_this_value, .ref a_this_given, .ref a_this_net, .ref a_this_together, .ref a_this_most, .ref a_this_owes, .ref a_this_can, .ref a_this_row, .ref a_this_before, .ref a_this_to, .ref a_this_on, .ref a_this_load, .ref a_this_lead, .ref a_this_bestLead, .ref a_this_silver])), (a_this_step, .inl (cI, 70, .inl res.1)), (a_this_waits, .inl (cI, 70, .inl v_this_waits)), (a_this_with, .inl (cI, 70, .inl res.2.2.2))] := by
  unfold F_X12_settles at h
  refine ii_metV (own := RX12) (lv0 := [(0, .ref a_this), (1, .int p0)]) (by decide) rfl rfl rfl (Nat.le_of_ble_eq_true rfl) (fun {p e s m args below meth c A Q} hQ => ?_)
  obtain ⟨x_2, hl_1, h⟩ := bnd h
  refine ii_loopX (fun s_1 => [(a_this, .inr (12, [.ref a_this_st, .ref a_this_images, .ref a_this_isKept, .long v_this_above, .long v_this_below, .int s_1.2.1, .ref a_this_step, .ref a_this_with, .int s_1.2.2.1, .ref a_this_waits, .ref a_this_value, .ref a_this_given, .ref a_this_net, .ref a_this_together, .ref a_this_most, .ref a_this_owes, .ref a_this_can, .ref a_this_row, .ref a_this_before, .ref a_this_to, .ref a_this_on, .ref a_this_load, .ref a_this_lead, .ref a_this_bestLead, .ref a_this_silver])), (a_this_step, .inl (cI, 70, .inl s_1.1)), (a_this_waits, .inl (cI, 70, .inl v_this_waits)), (a_this_with, .inl (cI, 70, .inl s_1.2.2.2))]) (fun s_1 => [(0, .ref a_this), (1, .int p0)]) (fun x_2 => [(a_this, .inr (12, [.ref a_this_st, .ref a_this_images, .ref a_this_isKept, .long v_this_above, .long v_this_below, .int x_2.2.1, .ref a_this_step, .ref a_this_with, .int x_2.2.2.1, .ref a_this_waits, .ref a_this_value, .ref a_this_given, .ref a_this_net, .ref a_this_together, .ref a_this_most, .ref a_this_owes, .ref a_this_can, .ref a_this_row, .ref a_this_before, .ref a_this_to, .ref a_this_on, .ref a_this_load, .ref a_this_lead, .ref a_this_bestLead, .ref a_this_silver])), (a_this_step, .inl (cI, 70, .inl x_2.1)), (a_this_waits, .inl (cI, 70, .inl v_this_waits)), (a_this_with, .inl (cI, 70, .inl x_2.2.2.2))]) (fun x_2 => []) 52 hl_1 rfl rfl ?_ (fun s_1 o h hb_1 hr_1 hx_1 => ?_)
  · skip
    cases h
    exact hQ _ _ dX12_settles_52
  · skip
    refine ii_aload_n 0 dX12_settles_0 rfl ?_
    refine ii_get (C := RX12) (T := TX12) (N := 25) (ci := 12) izX12 0 rfl rfl 8 (by decide) kX12_98 rfl dX12_settles_1 ?_
    refine ii_if_le (tgt := 52) h dX12_settles_4 (by decide) (fun h => ?_) (fun h => ?_)
    · skip
      refine ii_lv [] rfl ?_
      cases h
      exact hx_1 (s_1.1, s_1.2.1, s_1.2.2.1, s_1.2.2.2) (hr_1 _ rfl)
    · skip
      refine ii_aload_n 0 dX12_settles_7 rfl ?_
      refine ii_get (C := RX12) (T := TX12) (N := 25) (ci := 12) izX12 0 rfl rfl 9 (by decide) kX12_26 rfl dX12_settles_8 ?_
      refine ii_aload_n 0 dX12_settles_11 rfl ?_
      refine ii_get (C := RX12) (T := TX12) (N := 25) (ci := 12) izX12 0 rfl rfl 8 (by decide) kX12_98 rfl dX12_settles_12 ?_
      refine ii_iconst dX12_settles_15 kc1 ?_
      refine ii_isub dX12_settles_16 ?_
      refine ii_iald h 2 0 rfl rfl dX12_settles_17 (fun t_3 h => ?_)
      obtain ⟨c_4, hc_4, h⟩ := bnd h
      refine ii_callSi (As := [.int t_3]) (ws' := [(a_this, .inr (12, [.ref a_this_st, .ref a_this_images, .ref a_this_isKept, .long v_this_above, .long v_this_below, .int s_1.2.1, .ref a_this_step, .ref a_this_with, .int s_1.2.2.1, .ref a_this_waits, .ref a_this_value, .ref a_this_given, .ref a_this_net, .ref a_this_together, .ref a_this_most, .ref a_this_owes, .ref a_this_can, .ref a_this_row, .ref a_this_before, .ref a_this_to, .ref a_this_on, .ref a_this_load, .ref a_this_lead, .ref a_this_bestLead, .ref a_this_silver])), (a_this_step, .inl (cI, 70, .inl s_1.1)), (a_this_waits, .inl (cI, 70, .inl v_this_waits)), (a_this_with, .inl (cI, 70, .inl s_1.2.2.2))]) (st := []) (c_X12_holds l D cI cJ cZ cH t_3 hc_4) gzX12_101 rfl rfl rfl eS_X12_holds ⟨Nat.le_of_ble_eq_true rfl, Nat.le_of_ble_eq_true rfl⟩ rfl [] rfl rfl rfl rfl rfl (Nat.le_of_ble_eq_true rfl) (Nat.le_refl _) (Nat.le_refl _) rfl dX12_settles_18 ?_
      refine ii_iload_n 1 dX12_settles_21 rfl ?_
      refine ii_icmp_lt (tgt := 52) h dX12_settles_22 (by decide) (fun h => ?_) (fun h => ?_)
      · skip
        refine ii_lv [] rfl ?_
        cases h
        exact hx_1 (s_1.1, s_1.2.1, s_1.2.2.1, s_1.2.2.2) (hr_1 _ rfl)
      · skip
        refine ii_aload_n 0 dX12_settles_25 rfl ?_
        refine ii_dup dX12_settles_26 rfl ?_
        refine ii_get (C := RX12) (T := TX12) (N := 25) (ci := 12) izX12 0 rfl rfl 8 (by decide) kX12_98 rfl dX12_settles_27 ?_
        refine ii_iconst dX12_settles_30 kc1 ?_
        refine ii_isub dX12_settles_31 ?_
        refine ii_topI h (fun x_5 h => ?_)
        refine ii_put (C := RX12) (T := TX12) (N := 25) (ci := 12) (ty0 := tyX12) (ws' := [(a_this, .inr (12, [.ref a_this_st, .ref a_this_images, .ref a_this_isKept, .long v_this_above, .long v_this_below, .int s_1.2.1, .ref a_this_step, .ref a_this_with, .int x_5, .ref a_this_waits, .ref a_this_value, .ref a_this_given, .ref a_this_net, .ref a_this_together, .ref a_this_most, .ref a_this_owes, .ref a_this_can, .ref a_this_row, .ref a_this_before, .ref a_this_to, .ref a_this_on, .ref a_this_load, .ref a_this_lead, .ref a_this_bestLead, .ref a_this_silver])), (a_this_step, .inl (cI, 70, .inl s_1.1)), (a_this_waits, .inl (cI, 70, .inl v_this_waits)), (a_this_with, .inl (cI, 70, .inl s_1.2.2.2))]) izX12 tyX12_ok nmX12 0 rfl rfl 8 (by decide) kX12_98 rfl rfl rfl (Nat.le_of_ble_eq_true rfl) dX12_settles_32 rfl ?_
        refine ii_aload_n 0 dX12_settles_35 rfl ?_
        refine ii_aload_n 0 dX12_settles_36 rfl ?_
        refine ii_get (C := RX12) (T := TX12) (N := 25) (ci := 12) izX12 0 rfl rfl 9 (by decide) kX12_26 rfl dX12_settles_37 ?_
        refine ii_aload_n 0 dX12_settles_40 rfl ?_
        refine ii_get (C := RX12) (T := TX12) (N := 25) (ci := 12) izX12 0 rfl rfl 8 (by decide) kX12_98 rfl dX12_settles_41 ?_
        refine ii_iald h 2 0 rfl rfl dX12_settles_44 (fun t_6 h => ?_)
        refine ii_iconst dX12_settles_45 kc0 ?_
        obtain ⟨c_7, hc_7, h⟩ := bnd h
        refine ii_callVv (As := [.int t_6, .int (0 : Int32)]) (ws' := [(a_this, .inr (12, [.ref a_this_st, .ref a_this_images, .ref a_this_isKept, .long v_this_above, .long v_this_below, .int c_7.2.1, .ref a_this_step, .ref a_this_with, .int x_5, .ref a_this_waits, .ref a_this_value, .ref a_this_given, .ref a_this_net, .ref a_this_together, .ref a_this_most, .ref a_this_owes, .ref a_this_can, .ref a_this_row, .ref a_this_before, .ref a_this_to, .ref a_this_on, .ref a_this_load, .ref a_this_lead, .ref a_this_bestLead, .ref a_this_silver])), (a_this_step, .inl (cI, 70, .inl c_7.1)), (a_this_waits, .inl (cI, 70, .inl v_this_waits)), (a_this_with, .inl (cI, 70, .inl c_7.2.2))]) (st := []) (c_X12_emits l D cI cJ cZ cH a_this a_this_before a_this_bestLead a_this_can a_this_given a_this_images a_this_isKept a_this_lead a_this_load a_this_most a_this_net a_this_on a_this_owes a_this_row a_this_silver a_this_st a_this_step a_this_to a_this_together a_this_value a_this_waits a_this_with v_this_above v_this_below s_1.1 s_1.2.1 x_5 s_1.2.2.2 t_6 (0 : Int32) hc_7) gzX12_104 rfl rfl rfl eV_X12_emits ⟨Nat.le_of_ble_eq_true rfl, Nat.le_of_ble_eq_true rfl⟩ rfl 0 rfl rfl [0, 1, 3] rfl rfl rfl rfl rfl (Nat.le_of_ble_eq_true rfl) (Nat.le_refl _) (Nat.le_refl _) rfl dX12_settles_46 ?_
        refine ii_goto (tgt := 0) dX12_settles_49 (by decide) ?_
        cases h
        exact hb_1 (c_7.1, c_7.2.1, x_5, c_7.2.2) rfl
set_option maxHeartbeats 4000000 in
set_option maxRecDepth 100000 in
theorem c_X12_waitsWith (l : Launch) (D : va_G) (cI cJ cZ cH : ClassId) (a_this a_this_before a_this_bestLead a_this_can a_this_given a_this_images a_this_isKept a_this_lead a_this_load a_this_most a_this_net a_this_on a_this_owes a_this_row a_this_silver a_this_st a_this_step a_this_to a_this_together a_this_value a_this_waits a_this_with : Nat) (v_this_above : Int64) (v_this_below : Int64) (v_this_steps : Int32) (v_this_waiting : Int32) (v_this_waits : Nat → Int32) (p0 : Int32) {res : Int32 × (Nat → Int32)} (h : F_X12_waitsWith v_this_waiting v_this_waits p0 = some res) : CTv l yX12_waitsWith wzX12_waitsWith { frames := 0, cells := 0, slots := 0, locals := 0 } D [(cI, .int), (cJ, .long), (cZ, .boolean), (cH, .object "TinHouse$House")] [.ref a_this, .int p0] [(a_this, .inr (12, [.ref a_this_st, .ref a_this_images, .ref a_this_isKept, .long v_this_above, .long v_this_below, .int v_this_steps, .ref a_this_step, .ref a_this_with, .int v_this_waiting, .ref a_this_waits, .ref a_this_value, .ref a_this_given, .ref a_this_net, .ref a_this_together, .ref a_this_most, .ref a_this_owes, .ref a_this_can, .ref a_this_row, .ref a_this_before, .ref a_this_to, .ref a_this_on, .ref a_this_load, .ref a_this_lead, .ref a_this_bestLead, .ref a_this_silver])), (a_this_waits, .inl (cI, 70, .inl v_this_waits))] [(a_this, .inr (12, [.ref a_this_st, .ref a_this_images, .ref a_this_isKept, .long v_this_above, .long v_this_below, .int v_this_steps, .ref a_this_step, .ref a_this_with, .int res.1, .ref a_this_waits, .ref a_this_value, .ref a_this_given, .ref a_this_net, .ref a_this_together, .ref a_this_most, .ref a_this_owes, .ref a_this_can, .ref a_this_row, .ref a_this_before, .ref a_this_to, .ref a_this_on, .ref a_this_load, .ref a_this_lead, .ref a_this_bestLead, .ref a_this_silver])), (a_this_waits, .inl (cI, 70, .inl res.2))] := by
  unfold F_X12_waitsWith at h
  refine ii_metV (own := RX12) (lv0 := [(0, .ref a_this), (1, .int p0)]) (by decide) rfl rfl rfl (Nat.le_of_ble_eq_true rfl) (fun {p e s m args below meth c A Q} hQ => ?_)
  refine ii_aload_n 0 dX12_waitsWith_0 rfl ?_
  refine ii_get (C := RX12) (T := TX12) (N := 25) (ci := 12) izX12 0 rfl rfl 9 (by decide) kX12_26 rfl dX12_waitsWith_1 ?_
  refine ii_aload_n 0 dX12_waitsWith_4 rfl ?_
  refine ii_get (C := RX12) (T := TX12) (N := 25) (ci := 12) izX12 0 rfl rfl 8 (by decide) kX12_98 rfl dX12_waitsWith_5 ?_
  refine ii_iload_n 1 dX12_waitsWith_8 rfl ?_
  refine ii_iast (fun g_1 => [(a_this, .inr (12, [.ref a_this_st, .ref a_this_images, .ref a_this_isKept, .long v_this_above, .long v_this_below, .int v_this_steps, .ref a_this_step, .ref a_this_with, .int v_this_waiting, .ref a_this_waits, .ref a_this_value, .ref a_this_given, .ref a_this_net, .ref a_this_together, .ref a_this_most, .ref a_this_owes, .ref a_this_can, .ref a_this_row, .ref a_this_before, .ref a_this_to, .ref a_this_on, .ref a_this_load, .ref a_this_lead, .ref a_this_bestLead, .ref a_this_silver])), (a_this_waits, .inl (cI, 70, .inl g_1))]) h 1 0 rfl rfl dX12_waitsWith_9 (fun _ => rfl) (fun g_1 h => ?_)
  refine ii_aload_n 0 dX12_waitsWith_10 rfl ?_
  refine ii_dup dX12_waitsWith_11 rfl ?_
  refine ii_get (C := RX12) (T := TX12) (N := 25) (ci := 12) izX12 0 rfl rfl 8 (by decide) kX12_98 rfl dX12_waitsWith_12 ?_
  refine ii_iconst dX12_waitsWith_15 kc1 ?_
  refine ii_iadd dX12_waitsWith_16 ?_
  refine ii_topI h (fun x_2 h => ?_)
  refine ii_put (C := RX12) (T := TX12) (N := 25) (ci := 12) (ty0 := tyX12) (ws' := [(a_this, .inr (12, [.ref a_this_st, .ref a_this_images, .ref a_this_isKept, .long v_this_above, .long v_this_below, .int v_this_steps, .ref a_this_step, .ref a_this_with, .int x_2, .ref a_this_waits, .ref a_this_value, .ref a_this_given, .ref a_this_net, .ref a_this_together, .ref a_this_most, .ref a_this_owes, .ref a_this_can, .ref a_this_row, .ref a_this_before, .ref a_this_to, .ref a_this_on, .ref a_this_load, .ref a_this_lead, .ref a_this_bestLead, .ref a_this_silver])), (a_this_waits, .inl (cI, 70, .inl g_1))]) izX12 tyX12_ok nmX12 0 rfl rfl 8 (by decide) kX12_98 rfl rfl rfl (Nat.le_of_ble_eq_true rfl) dX12_waitsWith_17 rfl ?_
  cases h
  exact hQ _ _ dX12_waitsWith_20
set_option maxHeartbeats 4000000 in
set_option maxRecDepth 100000 in
theorem c_X12_nameOf (l : Launch) (D : va_G) (cI cJ cZ cH : ClassId) (p0 : Int32) {res : Int32} (h : F_X12_nameOf p0 = some res) : CTi l yX12_nameOf wzX12_nameOf { frames := 0, cells := 0, slots := 0, locals := 0 } D [(cI, .int), (cJ, .long), (cZ, .boolean), (cH, .object "TinHouse$House")] [.int p0] [] res [] := by
  unfold F_X12_nameOf at h
  refine ii_metI (own := RX12) (lv0 := [(0, .int p0)]) (by decide) rfl rfl rfl (Nat.le_of_ble_eq_true rfl) (fun {p e s m args below meth c A Q} hQ => ?_)
  refine ii_iload_n 0 dX12_nameOf_0 rfl ?_
  refine ii_sw h (fun hq103 h => ?_) (fun hq103 h => ?_)
  · skip
    refine ii_lookup (tgt := 52) (off := 51) dX12_nameOf_1 rfl (by rw [hq103] <;> decide) (by decide) ?_
    refine ii_iconst dX12_nameOf_52 kc0 ?_
    cases h
    exact hQ _ _ dX12_nameOf_53
  refine ii_sw h (fun hq107 h => ?_) (fun hq107 h => ?_)
  · skip
    refine ii_lookup (tgt := 54) (off := 53) dX12_nameOf_1 rfl (by rw [hq107] <;> decide) (by decide) ?_
    refine ii_iconst dX12_nameOf_54 kc1 ?_
    cases h
    exact hQ _ _ dX12_nameOf_55
  refine ii_sw h (fun hq115 h => ?_) (fun hq115 h => ?_)
  · skip
    refine ii_lookup (tgt := 58) (off := 57) dX12_nameOf_1 rfl (by rw [hq115] <;> decide) (by decide) ?_
    refine ii_iconst dX12_nameOf_58 kc3 ?_
    cases h
    exact hQ _ _ dX12_nameOf_59
  refine ii_sw h (fun hq116 h => ?_) (fun hq116 h => ?_)
  · skip
    refine ii_lookup (tgt := 56) (off := 55) dX12_nameOf_1 rfl (by rw [hq116] <;> decide) (by decide) ?_
    refine ii_iconst dX12_nameOf_56 kc2 ?_
    cases h
    exact hQ _ _ dX12_nameOf_57
  refine ii_sw h (fun hq119 h => ?_) (fun hq119 h => ?_)
  · skip
    refine ii_lookup (tgt := 60) (off := 59) dX12_nameOf_1 rfl (by rw [hq119] <;> decide) (by decide) ?_
    refine ii_iconst dX12_nameOf_60 kc4 ?_
    cases h
    exact hQ _ _ dX12_nameOf_61
  refine ii_lookup (tgt := 62) (off := 61) dX12_nameOf_1 rfl (by show Op.lookupswitch.offset [(103, 51), (107, 53), (115, 57), (116, 55), (119, 59)] _ _ = _; rw [lv_osw hq103 (a := 103) (by rfl), lv_osw hq107 (a := 107) (by rfl), lv_osw hq115 (a := 115) (by rfl), lv_osw hq116 (a := 116) (by rfl), lv_osw hq119 (a := 119) (by rfl)] <;> rfl) (by decide) ?_
  refine ii_iconst dX12_nameOf_62 kcm1 ?_
  cases h
  exact hQ _ _ dX12_nameOf_63
set_option maxHeartbeats 4000000 in
set_option maxRecDepth 100000 in
theorem c_X12_signOf (l : Launch) (D : va_G) (cI cJ cZ cH : ClassId) (p0 : Int32) {res : Int32} (h : F_X12_signOf p0 = some res) : CTi l yX12_signOf wzX12_signOf { frames := 0, cells := 0, slots := 0, locals := 0 } D [(cI, .int), (cJ, .long), (cZ, .boolean), (cH, .object "TinHouse$House")] [.int p0] [] res [] := by
  unfold F_X12_signOf at h
  refine ii_metI (own := RX12) (lv0 := [(0, .int p0)]) (by decide) rfl rfl rfl (Nat.le_of_ble_eq_true rfl) (fun {p e s m args below meth c A Q} hQ => ?_)
  refine ii_iload_n 0 dX12_signOf_0 rfl ?_
  refine ii_sw h (fun hq38 h => ?_) (fun hq38 h => ?_)
  · skip
    refine ii_lookup (tgt := 103) (off := 102) dX12_signOf_1 rfl (by rw [hq38] <;> decide) (by decide) ?_
    refine ii_bipush dX12_signOf_103 kb11 ?_
    cases h
    exact hQ _ _ dX12_signOf_105
  refine ii_sw h (fun hq42 h => ?_) (fun hq42 h => ?_)
  · skip
    refine ii_lookup (tgt := 84) (off := 83) dX12_signOf_1 rfl (by rw [hq42] <;> decide) (by decide) ?_
    refine ii_iconst dX12_signOf_84 kc4 ?_
    cases h
    exact hQ _ _ dX12_signOf_85
  refine ii_sw h (fun hq43 h => ?_) (fun hq43 h => ?_)
  · skip
    refine ii_lookup (tgt := 88) (off := 87) dX12_signOf_1 rfl (by rw [hq43] <;> decide) (by decide) ?_
    refine ii_bipush dX12_signOf_88 kb6 ?_
    cases h
    exact hQ _ _ dX12_signOf_90
  refine ii_sw h (fun hq45 h => ?_) (fun hq45 h => ?_)
  · skip
    refine ii_lookup (tgt := 91) (off := 90) dX12_signOf_1 rfl (by rw [hq45] <;> decide) (by decide) ?_
    refine ii_bipush dX12_signOf_91 kb7 ?_
    cases h
    exact hQ _ _ dX12_signOf_93
  refine ii_sw h (fun hq47 h => ?_) (fun hq47 h => ?_)
  · skip
    refine ii_lookup (tgt := 86) (off := 85) dX12_signOf_1 rfl (by rw [hq47] <;> decide) (by decide) ?_
    refine ii_iconst dX12_signOf_86 kc5 ?_
    cases h
    exact hQ _ _ dX12_signOf_87
  refine ii_sw h (fun hq60 h => ?_) (fun hq60 h => ?_)
  · skip
    refine ii_lookup (tgt := 94) (off := 93) dX12_signOf_1 rfl (by rw [hq60] <;> decide) (by decide) ?_
    refine ii_bipush dX12_signOf_94 kb8 ?_
    cases h
    exact hQ _ _ dX12_signOf_96
  refine ii_sw h (fun hq61 h => ?_) (fun hq61 h => ?_)
  · skip
    refine ii_lookup (tgt := 100) (off := 99) dX12_signOf_1 rfl (by rw [hq61] <;> decide) (by decide) ?_
    refine ii_bipush dX12_signOf_100 kb10 ?_
    cases h
    exact hQ _ _ dX12_signOf_102
  refine ii_sw h (fun hq62 h => ?_) (fun hq62 h => ?_)
  · skip
    refine ii_lookup (tgt := 97) (off := 96) dX12_signOf_1 rfl (by rw [hq62] <;> decide) (by decide) ?_
    refine ii_bipush dX12_signOf_97 kb9 ?_
    cases h
    exact hQ _ _ dX12_signOf_99
  refine ii_sw h (fun hq124 h => ?_) (fun hq124 h => ?_)
  · skip
    refine ii_lookup (tgt := 106) (off := 105) dX12_signOf_1 rfl (by rw [hq124] <;> decide) (by decide) ?_
    refine ii_bipush dX12_signOf_106 kb12 ?_
    cases h
    exact hQ _ _ dX12_signOf_108
  refine ii_lookup (tgt := 109) (off := 108) dX12_signOf_1 rfl (by show Op.lookupswitch.offset [(38, 102), (42, 83), (43, 87), (45, 90), (47, 85), (60, 93), (61, 99), (62, 96), (124, 105)] _ _ = _; rw [lv_osw hq38 (a := 38) (by rfl), lv_osw hq42 (a := 42) (by rfl), lv_osw hq43 (a := 43) (by rfl), lv_osw hq45 (a := 45) (by rfl), lv_osw hq47 (a := 47) (by rfl), lv_osw hq60 (a := 60) (by rfl), lv_osw hq61 (a := 61) (by rfl), lv_osw hq62 (a := 62) (by rfl), lv_osw hq124 (a := 124) (by rfl)] <;> rfl) (by decide) ?_
  refine ii_iconst dX12_signOf_109 kcm1 ?_
  cases h
  exact hQ _ _ dX12_signOf_110
set_option maxHeartbeats 4000000 in
set_option maxRecDepth 100000 in
theorem c_X12_closes (l : Launch) (D : va_G) (cI cJ cZ cH : ClassId) (a_this a_this_before a_this_bestLead a_this_can a_this_given a_this_images a_this_isKept a_this_lead a_this_load a_this_most a_this_net a_this_on a_this_owes a_this_row a_this_silver a_this_st a_this_step a_this_to a_this_together a_this_value a_this_waits a_this_with : Nat) (v_this_above : Int64) (v_this_below : Int64) (v_this_step : Nat → Int32) (v_this_steps : Int32) (v_this_waiting : Int32) (v_this_waits : Nat → Int32) (v_this_with : Nat → Int32) {res : Int32 × (Nat → Int32) × Int32 × Int32 × (Nat → Int32)} (h : F_X12_closes v_this_step v_this_steps v_this_waiting v_this_waits v_this_with = some res) : CTi l yX12_closes wzX12_closes { frames := 2, cells := 0, slots := 0, locals := 43 } D [(cI, .int), (cJ, .long), (cZ, .boolean), (cH, .object "TinHouse$House")] [.ref a_this] [(a_this, .inr (12, [.ref a_this_st, .ref a_this_images, .ref a_this_isKept, .long v_this_above, .long v_this_below, .int v_this_steps, .ref a_this_step, .ref a_this_with, .int v_this_waiting, .ref a_this_waits, .ref a_this_value, .ref a_this_given, .ref a_this_net, .ref a_this_together, .ref a_this_most, .ref a_this_owes, .ref a_this_can, .ref a_this_row, .ref a_this_before, .ref a_this_to, .ref a_this_on, .ref a_this_load, .ref a_this_lead, .ref a_this_bestLead, .ref a_this_silver])), (a_this_step, .inl (cI, 70, .inl v_this_step)), (a_this_waits, .inl (cI, 70, .inl v_this_waits)), (a_this_with, .inl (cI, 70, .inl v_this_with))] res.1 [(a_this, .inr (12, [.ref a_this_st, .ref a_this_images, .ref a_this_isKept, .long v_this_above, .long v_this_below, .int res.2.2.1, .ref a_this_step, .ref a_this_with, .int res.2.2.2.1, .ref a_this_waits, .ref a_this_value, .ref a_this_given, .ref a_this_net, .ref a_this_together, .ref a_this_most, .ref a_this_owes, .ref a_this_can, .ref a_this_row, .ref a_this_before, .ref a_this_to, .ref a_this_on, .ref a_this_load, .ref a_this_lead, .ref a_this_bestLead, .ref a_this_silver])), (a_this_step, .inl (cI, 70, .inl res.2.1)), (a_this_waits, .inl (cI, 70, .inl v_this_waits)), (a_this_with, .inl (cI, 70, .inl res.2.2.2.2))] := by
  unfold F_X12_closes at h
  refine ii_metI (own := RX12) (lv0 := [(0, .ref a_this)]) (by decide) rfl rfl rfl (Nat.le_of_ble_eq_true rfl) (fun {p e s m args below meth c A Q} hQ => ?_)
  refine ii_aload_n 0 dX12_closes_0 rfl ?_
  refine ii_iconst dX12_closes_1 kc1 ?_
  obtain ⟨c_1, hc_1, h⟩ := bnd h
  refine ii_callVv (As := [.int (1 : Int32)]) (ws' := [(a_this, .inr (12, [.ref a_this_st, .ref a_this_images, .ref a_this_isKept, .long v_this_above, .long v_this_below, .int c_1.2.1, .ref a_this_step, .ref a_this_with, .int c_1.2.2.1, .ref a_this_waits, .ref a_this_value, .ref a_this_given, .ref a_this_net, .ref a_this_together, .ref a_this_most, .ref a_this_owes, .ref a_this_can, .ref a_this_row, .ref a_this_before, .ref a_this_to, .ref a_this_on, .ref a_this_load, .ref a_this_lead, .ref a_this_bestLead, .ref a_this_silver])), (a_this_step, .inl (cI, 70, .inl c_1.1)), (a_this_waits, .inl (cI, 70, .inl v_this_waits)), (a_this_with, .inl (cI, 70, .inl c_1.2.2.2))]) (st := []) (c_X12_settles l D cI cJ cZ cH a_this a_this_before a_this_bestLead a_this_can a_this_given a_this_images a_this_isKept a_this_lead a_this_load a_this_most a_this_net a_this_on a_this_owes a_this_row a_this_silver a_this_st a_this_step a_this_to a_this_together a_this_value a_this_waits a_this_with v_this_above v_this_below v_this_step v_this_steps v_this_waiting v_this_waits v_this_with (1 : Int32) hc_1) gzX12_108 rfl rfl rfl eV_X12_settles ⟨Nat.le_of_ble_eq_true rfl, Nat.le_of_ble_eq_true rfl⟩ rfl 0 rfl rfl [0, 1, 2, 3] rfl rfl rfl rfl rfl (Nat.le_of_ble_eq_true rfl) (Nat.le_refl _) (Nat.le_refl _) rfl dX12_closes_2 ?_
  obtain ⟨x_3, hl_2, h⟩ := bnd h
  refine ii_loopX (fun s_2 => [(a_this, .inr (12, [.ref a_this_st, .ref a_this_images, .ref a_this_isKept, .long v_this_above, .long v_this_below, .int s_2.2.1, .ref a_this_step, .ref a_this_with, .int s_2.2.2.1, .ref a_this_waits, .ref a_this_value, .ref a_this_given, .ref a_this_net, .ref a_this_together, .ref a_this_most, .ref a_this_owes, .ref a_this_can, .ref a_this_row, .ref a_this_before, .ref a_this_to, .ref a_this_on, .ref a_this_load, .ref a_this_lead, .ref a_this_bestLead, .ref a_this_silver])), (a_this_step, .inl (cI, 70, .inl s_2.1)), (a_this_waits, .inl (cI, 70, .inl v_this_waits)), (a_this_with, .inl (cI, 70, .inl s_2.2.2.2))]) (fun s_2 => [(0, .ref a_this)]) (fun x_3 => [(a_this, .inr (12, [.ref a_this_st, .ref a_this_images, .ref a_this_isKept, .long v_this_above, .long v_this_below, .int x_3.2.1, .ref a_this_step, .ref a_this_with, .int x_3.2.2.1, .ref a_this_waits, .ref a_this_value, .ref a_this_given, .ref a_this_net, .ref a_this_together, .ref a_this_most, .ref a_this_owes, .ref a_this_can, .ref a_this_row, .ref a_this_before, .ref a_this_to, .ref a_this_on, .ref a_this_load, .ref a_this_lead, .ref a_this_bestLead, .ref a_this_silver])), (a_this_step, .inl (cI, 70, .inl x_3.1)), (a_this_waits, .inl (cI, 70, .inl v_this_waits)), (a_this_with, .inl (cI, 70, .inl x_3.2.2.2))]) (fun x_3 => [(0, .ref a_this)]) 48 hl_2 rfl rfl ?_ (fun s_2 o h hb_2 hr_2 hx_2 => ?_)
  · skip
    refine ii_aload_n 0 dX12_closes_48 rfl ?_
    refine ii_get (C := RX12) (T := TX12) (N := 25) (ci := 12) izX12 0 rfl rfl 8 (by decide) kX12_98 rfl dX12_closes_49 ?_
    refine ii_jn h (fun j_7 => [(a_this, .inr (12, [.ref a_this_st, .ref a_this_images, .ref a_this_isKept, .long v_this_above, .long v_this_below, .int x_3.2.1, .ref a_this_step, .ref a_this_with, .int x_3.2.2.1, .ref a_this_waits, .ref a_this_value, .ref a_this_given, .ref a_this_net, .ref a_this_together, .ref a_this_most, .ref a_this_owes, .ref a_this_can, .ref a_this_row, .ref a_this_before, .ref a_this_to, .ref a_this_on, .ref a_this_load, .ref a_this_lead, .ref a_this_bestLead, .ref a_this_silver])), (a_this_step, .inl (cI, 70, .inl x_3.1)), (a_this_waits, .inl (cI, 70, .inl v_this_waits)), (a_this_with, .inl (cI, 70, .inl x_3.2.2.2))]) (fun j_7 => []) 70 (fun j_7 => [.int j_7]) (fun j_7 h => ?_) (fun j_7 h hjj_7 => ?_)
    · skip
      cases h
      exact hQ _ _ dX12_closes_70
    · skip
      refine ii_if_ne (tgt := 59) h dX12_closes_52 (by decide) (fun h => ?_) (fun h => ?_)
      · skip
        refine ii_aload_n 0 dX12_closes_59 rfl ?_
        refine ii_get (C := RX12) (T := TX12) (N := 25) (ci := 12) izX12 0 rfl rfl 9 (by decide) kX12_26 rfl dX12_closes_60 ?_
        refine ii_aload_n 0 dX12_closes_63 rfl ?_
        refine ii_get (C := RX12) (T := TX12) (N := 25) (ci := 12) izX12 0 rfl rfl 8 (by decide) kX12_98 rfl dX12_closes_64 ?_
        refine ii_iconst dX12_closes_67 kc1 ?_
        refine ii_isub dX12_closes_68 ?_
        refine ii_iald h 2 0 rfl rfl dX12_closes_69 (fun t_8 h => ?_)
        refine ii_lv [] rfl ?_
        cases h
        exact hjj_7
      · skip
        refine ii_iconst dX12_closes_55 kcm1 ?_
        refine ii_goto (tgt := 70) dX12_closes_56 (by decide) ?_
        refine ii_lv [] rfl ?_
        cases h
        exact hjj_7
  · skip
    refine ii_aload_n 0 dX12_closes_5 rfl ?_
    refine ii_get (C := RX12) (T := TX12) (N := 25) (ci := 12) izX12 0 rfl rfl 8 (by decide) kX12_98 rfl dX12_closes_6 ?_
    refine ii_if_le (tgt := 48) h dX12_closes_9 (by decide) (fun h => ?_) (fun h => ?_)
    · skip
      cases h
      exact hx_2 (s_2.1, s_2.2.1, s_2.2.2.1, s_2.2.2.2) (hr_2 _ rfl)
    · skip
      refine ii_aload_n 0 dX12_closes_12 rfl ?_
      refine ii_get (C := RX12) (T := TX12) (N := 25) (ci := 12) izX12 0 rfl rfl 9 (by decide) kX12_26 rfl dX12_closes_13 ?_
      refine ii_aload_n 0 dX12_closes_16 rfl ?_
      refine ii_get (C := RX12) (T := TX12) (N := 25) (ci := 12) izX12 0 rfl rfl 8 (by decide) kX12_98 rfl dX12_closes_17 ?_
      refine ii_iconst dX12_closes_20 kc1 ?_
      refine ii_isub dX12_closes_21 ?_
      refine ii_iald h 2 0 rfl rfl dX12_closes_22 (fun t_4 h => ?_)
      refine ii_bipush dX12_closes_23 kb15 ?_
      refine ii_icmp_ne (tgt := 48) h dX12_closes_25 (by decide) (fun h => ?_) (fun h => ?_)
      · skip
        cases h
        exact hx_2 (s_2.1, s_2.2.1, s_2.2.2.1, s_2.2.2.2) (hr_2 _ rfl)
      · skip
        refine ii_aload_n 0 dX12_closes_28 rfl ?_
        refine ii_dup dX12_closes_29 rfl ?_
        refine ii_get (C := RX12) (T := TX12) (N := 25) (ci := 12) izX12 0 rfl rfl 8 (by decide) kX12_98 rfl dX12_closes_30 ?_
        refine ii_iconst dX12_closes_33 kc1 ?_
        refine ii_isub dX12_closes_34 ?_
        refine ii_topI h (fun x_5 h => ?_)
        refine ii_put (C := RX12) (T := TX12) (N := 25) (ci := 12) (ty0 := tyX12) (ws' := [(a_this, .inr (12, [.ref a_this_st, .ref a_this_images, .ref a_this_isKept, .long v_this_above, .long v_this_below, .int s_2.2.1, .ref a_this_step, .ref a_this_with, .int x_5, .ref a_this_waits, .ref a_this_value, .ref a_this_given, .ref a_this_net, .ref a_this_together, .ref a_this_most, .ref a_this_owes, .ref a_this_can, .ref a_this_row, .ref a_this_before, .ref a_this_to, .ref a_this_on, .ref a_this_load, .ref a_this_lead, .ref a_this_bestLead, .ref a_this_silver])), (a_this_step, .inl (cI, 70, .inl s_2.1)), (a_this_waits, .inl (cI, 70, .inl v_this_waits)), (a_this_with, .inl (cI, 70, .inl s_2.2.2.2))]) izX12 tyX12_ok nmX12 0 rfl rfl 8 (by decide) kX12_98 rfl rfl rfl (Nat.le_of_ble_eq_true rfl) dX12_closes_35 rfl ?_
        refine ii_aload_n 0 dX12_closes_38 rfl ?_
        refine ii_bipush dX12_closes_39 kb15 ?_
        refine ii_iconst dX12_closes_41 kc0 ?_
        obtain ⟨c_6, hc_6, h⟩ := bnd h
        refine ii_callVv (As := [.int (15 : Int32), .int (0 : Int32)]) (ws' := [(a_this, .inr (12, [.ref a_this_st, .ref a_this_images, .ref a_this_isKept, .long v_this_above, .long v_this_below, .int c_6.2.1, .ref a_this_step, .ref a_this_with, .int x_5, .ref a_this_waits, .ref a_this_value, .ref a_this_given, .ref a_this_net, .ref a_this_together, .ref a_this_most, .ref a_this_owes, .ref a_this_can, .ref a_this_row, .ref a_this_before, .ref a_this_to, .ref a_this_on, .ref a_this_load, .ref a_this_lead, .ref a_this_bestLead, .ref a_this_silver])), (a_this_step, .inl (cI, 70, .inl c_6.1)), (a_this_waits, .inl (cI, 70, .inl v_this_waits)), (a_this_with, .inl (cI, 70, .inl c_6.2.2))]) (st := []) (c_X12_emits l D cI cJ cZ cH a_this a_this_before a_this_bestLead a_this_can a_this_given a_this_images a_this_isKept a_this_lead a_this_load a_this_most a_this_net a_this_on a_this_owes a_this_row a_this_silver a_this_st a_this_step a_this_to a_this_together a_this_value a_this_waits a_this_with v_this_above v_this_below s_2.1 s_2.2.1 x_5 s_2.2.2.2 (15 : Int32) (0 : Int32) hc_6) gzX12_104 rfl rfl rfl eV_X12_emits ⟨Nat.le_of_ble_eq_true rfl, Nat.le_of_ble_eq_true rfl⟩ rfl 0 rfl rfl [0, 1, 3] rfl rfl rfl rfl rfl (Nat.le_of_ble_eq_true rfl) (Nat.le_refl _) (Nat.le_refl _) rfl dX12_closes_42 ?_
        refine ii_goto (tgt := 5) dX12_closes_45 (by decide) ?_
        cases h
        exact hb_2 (c_6.1, c_6.2.1, x_5, c_6.2.2) rfl
set_option maxHeartbeats 4000000 in
set_option maxRecDepth 100000 in
theorem c_X12_goesOn (l : Launch) (D : va_G) (cI cJ cZ cH : ClassId) (a_this a_this_before a_this_bestLead a_this_can a_this_given a_this_images a_this_isKept a_this_lead a_this_load a_this_most a_this_net a_this_on a_this_owes a_this_row a_this_silver a_this_st a_this_step a_this_to a_this_together a_this_value a_this_waits a_this_with : Nat) (v_this_above : Int64) (v_this_below : Int64) (v_this_step : Nat → Int32) (v_this_steps : Int32) (v_this_waiting : Int32) (v_this_waits : Nat → Int32) (v_this_with : Nat → Int32) (p0 : Int32) {res : Int32 × (Nat → Int32) × Int32 × Int32 × (Nat → Int32) × (Nat → Int32)} (h : F_X12_goesOn v_this_step v_this_steps v_this_waiting v_this_waits v_this_with p0 = some res) : CTi l yX12_goesOn wzX12_goesOn { frames := 2, cells := 0, slots := 0, locals := 43 } D [(cI, .int), (cJ, .long), (cZ, .boolean), (cH, .object "TinHouse$House")] [.ref a_this, .int p0] [(a_this, .inr (12, [.ref a_this_st, .ref a_this_images, .ref a_this_isKept, .long v_this_above, .long v_this_below, .int v_this_steps, .ref a_this_step, .ref a_this_with, .int v_this_waiting, .ref a_this_waits, .ref a_this_value, .ref a_this_given, .ref a_this_net, .ref a_this_together, .ref a_this_most, .ref a_this_owes, .ref a_this_can, .ref a_this_row, .ref a_this_before, .ref a_this_to, .ref a_this_on, .ref a_this_load, .ref a_this_lead, .ref a_this_bestLead, .ref a_this_silver])), (a_this_step, .inl (cI, 70, .inl v_this_step)), (a_this_waits, .inl (cI, 70, .inl v_this_waits)), (a_this_with, .inl (cI, 70, .inl v_this_with))] res.1 [(a_this, .inr (12, [.ref a_this_st, .ref a_this_images, .ref a_this_isKept, .long v_this_above, .long v_this_below, .int res.2.2.1, .ref a_this_step, .ref a_this_with, .int res.2.2.2.1, .ref a_this_waits, .ref a_this_value, .ref a_this_given, .ref a_this_net, .ref a_this_together, .ref a_this_most, .ref a_this_owes, .ref a_this_can, .ref a_this_row, .ref a_this_before, .ref a_this_to, .ref a_this_on, .ref a_this_load, .ref a_this_lead, .ref a_this_bestLead, .ref a_this_silver])), (a_this_step, .inl (cI, 70, .inl res.2.1)), (a_this_waits, .inl (cI, 70, .inl res.2.2.2.2.1)), (a_this_with, .inl (cI, 70, .inl res.2.2.2.2.2))] := by
  unfold F_X12_goesOn at h
  refine ii_metZ (own := RX12) (lv0 := [(0, .ref a_this), (1, .int p0)]) (by decide) rfl rfl rfl (Nat.le_of_ble_eq_true rfl) (fun {p e s m args below meth c A Q} hQ => ?_)
  refine ii_iload_n 1 dX12_goesOn_0 rfl ?_
  obtain ⟨c_1, hc_1, h⟩ := bnd h
  refine ii_callSi (As := [.int p0]) (ws' := [(a_this, .inr (12, [.ref a_this_st, .ref a_this_images, .ref a_this_isKept, .long v_this_above, .long v_this_below, .int v_this_steps, .ref a_this_step, .ref a_this_with, .int v_this_waiting, .ref a_this_waits, .ref a_this_value, .ref a_this_given, .ref a_this_net, .ref a_this_together, .ref a_this_most, .ref a_this_owes, .ref a_this_can, .ref a_this_row, .ref a_this_before, .ref a_this_to, .ref a_this_on, .ref a_this_load, .ref a_this_lead, .ref a_this_bestLead, .ref a_this_silver])), (a_this_step, .inl (cI, 70, .inl v_this_step)), (a_this_waits, .inl (cI, 70, .inl v_this_waits)), (a_this_with, .inl (cI, 70, .inl v_this_with))]) (st := []) (c_X12_holds l D cI cJ cZ cH p0 hc_1) gzX12_101 rfl rfl rfl eS_X12_holds ⟨Nat.le_of_ble_eq_true rfl, Nat.le_of_ble_eq_true rfl⟩ rfl [] rfl rfl rfl rfl rfl (Nat.le_of_ble_eq_true rfl) (Nat.le_refl _) (Nat.le_refl _) rfl dX12_goesOn_1 ?_
  refine ii_istore_n (lv' := [(2, .int c_1), (0, .ref a_this), (1, .int p0)]) dX12_goesOn_4 rfl (by decide) rfl ?_
  refine ii_iload_n 0 dX12_goesOn_5 rfl ?_
  refine ii_iconst dX12_goesOn_6 kc3 ?_
  refine ii_jf (r := res) (J_X12_goesOn_1_42 v_this_waits c_1 p0) (fun v_2 => [(a_this, .inr (12, [.ref a_this_st, .ref a_this_images, .ref a_this_isKept, .long v_this_above, .long v_this_below, .int v_2.2.1, .ref a_this_step, .ref a_this_with, .int v_2.2.2.1, .ref a_this_waits, .ref a_this_value, .ref a_this_given, .ref a_this_net, .ref a_this_together, .ref a_this_most, .ref a_this_owes, .ref a_this_can, .ref a_this_row, .ref a_this_before, .ref a_this_to, .ref a_this_on, .ref a_this_load, .ref a_this_lead, .ref a_this_bestLead, .ref a_this_silver])), (a_this_step, .inl (cI, 70, .inl v_2.1)), (a_this_waits, .inl (cI, 70, .inl v_this_waits)), (a_this_with, .inl (cI, 70, .inl v_2.2.2.2))]) (fun v_2 => [(0, .ref a_this), (1, .int p0), (2, .int c_1)]) 42 (fun v_2 => []) (fun v_2 h => ?_) (fun hjv_2 => ?_)
  · skip
    refine ii_aload_n 0 dX12_goesOn_42 rfl ?_
    refine ii_iload_n 2 dX12_goesOn_43 rfl ?_
    obtain ⟨c_3, hc_3, h⟩ := bnd h
    refine ii_callVv (As := [.int c_1]) (ws' := [(a_this, .inr (12, [.ref a_this_st, .ref a_this_images, .ref a_this_isKept, .long v_this_above, .long v_this_below, .int c_3.2.1, .ref a_this_step, .ref a_this_with, .int c_3.2.2.1, .ref a_this_waits, .ref a_this_value, .ref a_this_given, .ref a_this_net, .ref a_this_together, .ref a_this_most, .ref a_this_owes, .ref a_this_can, .ref a_this_row, .ref a_this_before, .ref a_this_to, .ref a_this_on, .ref a_this_load, .ref a_this_lead, .ref a_this_bestLead, .ref a_this_silver])), (a_this_step, .inl (cI, 70, .inl c_3.1)), (a_this_waits, .inl (cI, 70, .inl v_this_waits)), (a_this_with, .inl (cI, 70, .inl c_3.2.2.2))]) (st := []) (c_X12_settles l D cI cJ cZ cH a_this a_this_before a_this_bestLead a_this_can a_this_given a_this_images a_this_isKept a_this_lead a_this_load a_this_most a_this_net a_this_on a_this_owes a_this_row a_this_silver a_this_st a_this_step a_this_to a_this_together a_this_value a_this_waits a_this_with v_this_above v_this_below v_2.1 v_2.2.1 v_2.2.2.1 v_this_waits v_2.2.2.2 c_1 hc_3) gzX12_108 rfl rfl rfl eV_X12_settles ⟨Nat.le_of_ble_eq_true rfl, Nat.le_of_ble_eq_true rfl⟩ rfl 0 rfl rfl [0, 1, 2, 3] rfl rfl rfl rfl rfl (Nat.le_of_ble_eq_true rfl) (Nat.le_refl _) (Nat.le_refl _) rfl dX12_goesOn_44 ?_
    refine ii_aload_n 0 dX12_goesOn_47 rfl ?_
    refine ii_iload_n 1 dX12_goesOn_48 rfl ?_
    obtain ⟨c_4, hc_4, h⟩ := bnd h
    refine ii_callVv (As := [.int p0]) (ws' := [(a_this, .inr (12, [.ref a_this_st, .ref a_this_images, .ref a_this_isKept, .long v_this_above, .long v_this_below, .int c_3.2.1, .ref a_this_step, .ref a_this_with, .int c_4.1, .ref a_this_waits, .ref a_this_value, .ref a_this_given, .ref a_this_net, .ref a_this_together, .ref a_this_most, .ref a_this_owes, .ref a_this_can, .ref a_this_row, .ref a_this_before, .ref a_this_to, .ref a_this_on, .ref a_this_load, .ref a_this_lead, .ref a_this_bestLead, .ref a_this_silver])), (a_this_step, .inl (cI, 70, .inl c_3.1)), (a_this_waits, .inl (cI, 70, .inl c_4.2)), (a_this_with, .inl (cI, 70, .inl c_3.2.2.2))]) (st := []) (c_X12_waitsWith l D cI cJ cZ cH a_this a_this_before a_this_bestLead a_this_can a_this_given a_this_images a_this_isKept a_this_lead a_this_load a_this_most a_this_net a_this_on a_this_owes a_this_row a_this_silver a_this_st a_this_step a_this_to a_this_together a_this_value a_this_waits a_this_with v_this_above v_this_below c_3.2.1 c_3.2.2.1 v_this_waits p0 hc_4) gzX12_112 rfl rfl rfl eV_X12_waitsWith ⟨Nat.le_of_ble_eq_true rfl, Nat.le_of_ble_eq_true rfl⟩ rfl 0 rfl rfl [0, 2] rfl rfl rfl rfl rfl (Nat.le_of_ble_eq_true rfl) (Nat.le_refl _) (Nat.le_refl _) rfl dX12_goesOn_49 ?_
    refine ii_iconst dX12_goesOn_52 kc1 ?_
    cases h
    exact hQ _ _ dX12_goesOn_53 (Or.inr rfl)
  · skip
    refine ii_icmp_ne (tgt := 42) h dX12_goesOn_7 (by decide) (fun h => ?_) (fun h => ?_)
    · skip
      refine ii_lv [1, 2, 0] rfl ?_
      exact hjv_2 (v_this_step, v_this_steps, v_this_waiting, v_this_with) h
    · skip
      refine ii_aload_n 1 dX12_goesOn_10 rfl ?_
      refine ii_iconst dX12_goesOn_11 kc4 ?_
      obtain ⟨c_5, hc_5, h⟩ := bnd h
      refine ii_callVv (As := [.int (4 : Int32)]) (ws' := [(a_this, .inr (12, [.ref a_this_st, .ref a_this_images, .ref a_this_isKept, .long v_this_above, .long v_this_below, .int c_5.2.1, .ref a_this_step, .ref a_this_with, .int c_5.2.2.1, .ref a_this_waits, .ref a_this_value, .ref a_this_given, .ref a_this_net, .ref a_this_together, .ref a_this_most, .ref a_this_owes, .ref a_this_can, .ref a_this_row, .ref a_this_before, .ref a_this_to, .ref a_this_on, .ref a_this_load, .ref a_this_lead, .ref a_this_bestLead, .ref a_this_silver])), (a_this_step, .inl (cI, 70, .inl c_5.1)), (a_this_waits, .inl (cI, 70, .inl v_this_waits)), (a_this_with, .inl (cI, 70, .inl c_5.2.2.2))]) (st := []) (c_X12_settles l D cI cJ cZ cH a_this a_this_before a_this_bestLead a_this_can a_this_given a_this_images a_this_isKept a_this_lead a_this_load a_this_most a_this_net a_this_on a_this_owes a_this_row a_this_silver a_this_st a_this_step a_this_to a_this_together a_this_value a_this_waits a_this_with v_this_above v_this_below v_this_step v_this_steps v_this_waiting v_this_waits v_this_with (4 : Int32) hc_5) gzX12_108 rfl rfl rfl eV_X12_settles ⟨Nat.le_of_ble_eq_true rfl, Nat.le_of_ble_eq_true rfl⟩ rfl 0 rfl rfl [0, 1, 2, 3] rfl rfl rfl rfl rfl (Nat.le_of_ble_eq_true rfl) (Nat.le_refl _) (Nat.le_refl _) rfl dX12_goesOn_12 ?_
      refine ii_aload_n 1 dX12_goesOn_15 rfl ?_
      refine ii_get (C := RX12) (T := TX12) (N := 25) (ci := 12) izX12 0 rfl rfl 8 (by decide) kX12_98 rfl dX12_goesOn_16 ?_
      refine ii_if_le (tgt := 42) h dX12_goesOn_19 (by decide) (fun h => ?_) (fun h => ?_)
      · skip
        refine ii_lv [1, 2, 0] rfl ?_
        exact hjv_2 (c_5.1, c_5.2.1, c_5.2.2.1, c_5.2.2.2) h
      · skip
        refine ii_aload_n 1 dX12_goesOn_22 rfl ?_
        refine ii_get (C := RX12) (T := TX12) (N := 25) (ci := 12) izX12 0 rfl rfl 9 (by decide) kX12_26 rfl dX12_goesOn_23 ?_
        refine ii_aload_n 1 dX12_goesOn_26 rfl ?_
        refine ii_get (C := RX12) (T := TX12) (N := 25) (ci := 12) izX12 0 rfl rfl 8 (by decide) kX12_98 rfl dX12_goesOn_27 ?_
        refine ii_iconst dX12_goesOn_30 kc1 ?_
        refine ii_isub dX12_goesOn_31 ?_
        refine ii_iald h 2 0 rfl rfl dX12_goesOn_32 (fun t_6 h => ?_)
        obtain ⟨c_7, hc_7, h⟩ := bnd h
        refine ii_callSi (As := [.int t_6]) (ws' := [(a_this, .inr (12, [.ref a_this_st, .ref a_this_images, .ref a_this_isKept, .long v_this_above, .long v_this_below, .int c_5.2.1, .ref a_this_step, .ref a_this_with, .int c_5.2.2.1, .ref a_this_waits, .ref a_this_value, .ref a_this_given, .ref a_this_net, .ref a_this_together, .ref a_this_most, .ref a_this_owes, .ref a_this_can, .ref a_this_row, .ref a_this_before, .ref a_this_to, .ref a_this_on, .ref a_this_load, .ref a_this_lead, .ref a_this_bestLead, .ref a_this_silver])), (a_this_step, .inl (cI, 70, .inl c_5.1)), (a_this_waits, .inl (cI, 70, .inl v_this_waits)), (a_this_with, .inl (cI, 70, .inl c_5.2.2.2))]) (st := []) (c_X12_holds l D cI cJ cZ cH t_6 hc_7) gzX12_101 rfl rfl rfl eS_X12_holds ⟨Nat.le_of_ble_eq_true rfl, Nat.le_of_ble_eq_true rfl⟩ rfl [] rfl rfl rfl rfl rfl (Nat.le_of_ble_eq_true rfl) (Nat.le_refl _) (Nat.le_refl _) rfl dX12_goesOn_33 ?_
        refine ii_iconst dX12_goesOn_36 kc3 ?_
        refine ii_icmp_ne (tgt := 42) h dX12_goesOn_37 (by decide) (fun h => ?_) (fun h => ?_)
        · skip
          refine ii_lv [1, 2, 0] rfl ?_
          exact hjv_2 (c_5.1, c_5.2.1, c_5.2.2.1, c_5.2.2.2) h
        · skip
          refine ii_iconst dX12_goesOn_40 kc0 ?_
          cases h
          exact hQ _ _ dX12_goesOn_41 (Or.inl rfl)
set_option maxHeartbeats 4000000 in
set_option maxRecDepth 100000 in
theorem c_X12_reads (l : Launch) (D : va_G) (cI cJ cZ cH : ClassId) (a_this a_this_before a_this_bestLead a_this_can a_this_given a_this_images a_this_isKept a_this_lead a_this_load a_this_most a_this_net a_this_on a_this_owes a_this_row a_this_silver a_this_st a_this_step a_this_to a_this_together a_this_value a_this_waits a_this_with : Nat) (v_this_above : Int64) (v_this_below : Int64) (v_this_st : Nat → Int32) (v_this_step : Nat → Int32) (v_this_steps : Int32) (v_this_waiting : Int32) (v_this_waits : Nat → Int32) (v_this_with : Nat → Int32) (p0 : Int32) {res : Int32 × (Nat → Int32) × Int32 × Int32 × (Nat → Int32) × (Nat → Int32)} (h : F_X12_reads v_this_st v_this_step v_this_steps v_this_waiting v_this_waits v_this_with p0 = some res) : CTi l yX12_reads wzX12_reads { frames := 3, cells := 0, slots := 0, locals := 65 } D [(cI, .int), (cJ, .long), (cZ, .boolean), (cH, .object "TinHouse$House")] [.ref a_this, .int p0] [(a_this, .inr (12, [.ref a_this_st, .ref a_this_images, .ref a_this_isKept, .long v_this_above, .long v_this_below, .int v_this_steps, .ref a_this_step, .ref a_this_with, .int v_this_waiting, .ref a_this_waits, .ref a_this_value, .ref a_this_given, .ref a_this_net, .ref a_this_together, .ref a_this_most, .ref a_this_owes, .ref a_this_can, .ref a_this_row, .ref a_this_before, .ref a_this_to, .ref a_this_on, .ref a_this_load, .ref a_this_lead, .ref a_this_bestLead, .ref a_this_silver])), (a_this_st, .inl (cI, 1951, .inl v_this_st)), (a_this_step, .inl (cI, 70, .inl v_this_step)), (a_this_waits, .inl (cI, 70, .inl v_this_waits)), (a_this_with, .inl (cI, 70, .inl v_this_with))] res.1 [(a_this, .inr (12, [.ref a_this_st, .ref a_this_images, .ref a_this_isKept, .long v_this_above, .long v_this_below, .int res.2.2.1, .ref a_this_step, .ref a_this_with, .int res.2.2.2.1, .ref a_this_waits, .ref a_this_value, .ref a_this_given, .ref a_this_net, .ref a_this_together, .ref a_this_most, .ref a_this_owes, .ref a_this_can, .ref a_this_row, .ref a_this_before, .ref a_this_to, .ref a_this_on, .ref a_this_load, .ref a_this_lead, .ref a_this_bestLead, .ref a_this_silver])), (a_this_st, .inl (cI, 1951, .inl v_this_st)), (a_this_step, .inl (cI, 70, .inl res.2.1)), (a_this_waits, .inl (cI, 70, .inl res.2.2.2.2.1)), (a_this_with, .inl (cI, 70, .inl res.2.2.2.2.2))] := by
  unfold F_X12_reads at h
  refine ii_metI (own := RX12) (lv0 := [(0, .ref a_this), (1, .int p0)]) (by decide) rfl rfl rfl (Nat.le_of_ble_eq_true rfl) (fun {p e s m args below meth c A Q} hQ => ?_)
  refine ii_aload_n 0 dX12_reads_0 rfl ?_
  refine ii_get (C := RX12) (T := TX12) (N := 25) (ci := 12) izX12 0 rfl rfl 0 (by decide) kX12_7 rfl dX12_reads_1 ?_
  refine ii_iload_n 1 dX12_reads_4 rfl ?_
  refine ii_iald h 1 0 rfl rfl dX12_reads_5 (fun t_1 h => ?_)
  refine ii_istore_n (lv' := [(2, .int t_1), (0, .ref a_this), (1, .int p0)]) dX12_reads_6 rfl (by decide) rfl ?_
  refine ii_aload_n 1 dX12_reads_7 rfl ?_
  refine ii_iconst dX12_reads_8 kc0 ?_
  refine ii_put (C := RX12) (T := TX12) (N := 25) (ci := 12) (ty0 := tyX12) (ws' := [(a_this, .inr (12, [.ref a_this_st, .ref a_this_images, .ref a_this_isKept, .long v_this_above, .long v_this_below, .int (0 : Int32), .ref a_this_step, .ref a_this_with, .int v_this_waiting, .ref a_this_waits, .ref a_this_value, .ref a_this_given, .ref a_this_net, .ref a_this_together, .ref a_this_most, .ref a_this_owes, .ref a_this_can, .ref a_this_row, .ref a_this_before, .ref a_this_to, .ref a_this_on, .ref a_this_load, .ref a_this_lead, .ref a_this_bestLead, .ref a_this_silver])), (a_this_st, .inl (cI, 1951, .inl v_this_st)), (a_this_step, .inl (cI, 70, .inl v_this_step)), (a_this_waits, .inl (cI, 70, .inl v_this_waits)), (a_this_with, .inl (cI, 70, .inl v_this_with))]) izX12 tyX12_ok nmX12 0 rfl rfl 5 (by decide) kX12_94 rfl rfl rfl (Nat.le_of_ble_eq_true rfl) dX12_reads_9 rfl ?_
  refine ii_aload_n 1 dX12_reads_12 rfl ?_
  refine ii_iconst dX12_reads_13 kc0 ?_
  refine ii_put (C := RX12) (T := TX12) (N := 25) (ci := 12) (ty0 := tyX12) (ws' := [(a_this, .inr (12, [.ref a_this_st, .ref a_this_images, .ref a_this_isKept, .long v_this_above, .long v_this_below, .int (0 : Int32), .ref a_this_step, .ref a_this_with, .int (0 : Int32), .ref a_this_waits, .ref a_this_value, .ref a_this_given, .ref a_this_net, .ref a_this_together, .ref a_this_most, .ref a_this_owes, .ref a_this_can, .ref a_this_row, .ref a_this_before, .ref a_this_to, .ref a_this_on, .ref a_this_load, .ref a_this_lead, .ref a_this_bestLead, .ref a_this_silver])), (a_this_st, .inl (cI, 1951, .inl v_this_st)), (a_this_step, .inl (cI, 70, .inl v_this_step)), (a_this_waits, .inl (cI, 70, .inl v_this_waits)), (a_this_with, .inl (cI, 70, .inl v_this_with))]) izX12 tyX12_ok nmX12 0 rfl rfl 8 (by decide) kX12_98 rfl rfl rfl (Nat.le_of_ble_eq_true rfl) dX12_reads_14 rfl ?_
  refine ii_iconst dX12_reads_17 kc0 ?_
  refine ii_istore_n (lv' := [(3, .int (0 : Int32)), (2, .int t_1), (0, .ref a_this), (1, .int p0)]) dX12_reads_18 rfl (by decide) rfl ?_
  refine ii_iconst dX12_reads_19 kc0 ?_
  refine ii_istore (lv' := [(4, .int (0 : Int32)), (3, .int (0 : Int32)), (2, .int t_1), (0, .ref a_this), (1, .int p0)]) dX12_reads_20 (by decide) rfl ?_
  refine ii_iconst dX12_reads_22 kc0 ?_
  refine ii_istore (lv' := [(5, .int (0 : Int32)), (4, .int (0 : Int32)), (3, .int (0 : Int32)), (2, .int t_1), (0, .ref a_this), (1, .int p0)]) dX12_reads_23 (by decide) rfl ?_
  refine ii_lv [4, 5, 3, 2, 1, 0] rfl ?_
  obtain ⟨x_3, hl_2, ha_2⟩ := bnd h
  refine ii_loopR (fun s_2 => [(a_this, .inr (12, [.ref a_this_st, .ref a_this_images, .ref a_this_isKept, .long v_this_above, .long v_this_below, .int s_2.2.2.2.2.1, .ref a_this_step, .ref a_this_with, .int s_2.2.2.2.2.2.1, .ref a_this_waits, .ref a_this_value, .ref a_this_given, .ref a_this_net, .ref a_this_together, .ref a_this_most, .ref a_this_owes, .ref a_this_can, .ref a_this_row, .ref a_this_before, .ref a_this_to, .ref a_this_on, .ref a_this_load, .ref a_this_lead, .ref a_this_bestLead, .ref a_this_silver])), (a_this_st, .inl (cI, 1951, .inl v_this_st)), (a_this_step, .inl (cI, 70, .inl s_2.2.2.2.1)), (a_this_waits, .inl (cI, 70, .inl s_2.2.2.2.2.2.2.1)), (a_this_with, .inl (cI, 70, .inl s_2.2.2.2.2.2.2.2))]) (fun s_2 => [(0, .ref a_this), (1, .int p0), (2, .int t_1), (3, .int s_2.1), (4, .int s_2.2.1), (5, .int s_2.2.2.1)]) (fun y_4 => [(a_this, .inr (12, [.ref a_this_st, .ref a_this_images, .ref a_this_isKept, .long v_this_above, .long v_this_below, .int y_4.2.2.2.2.1, .ref a_this_step, .ref a_this_with, .int y_4.2.2.2.2.2.1, .ref a_this_waits, .ref a_this_value, .ref a_this_given, .ref a_this_net, .ref a_this_together, .ref a_this_most, .ref a_this_owes, .ref a_this_can, .ref a_this_row, .ref a_this_before, .ref a_this_to, .ref a_this_on, .ref a_this_load, .ref a_this_lead, .ref a_this_bestLead, .ref a_this_silver])), (a_this_st, .inl (cI, 1951, .inl v_this_st)), (a_this_step, .inl (cI, 70, .inl y_4.2.2.2.1)), (a_this_waits, .inl (cI, 70, .inl y_4.2.2.2.2.2.2.1)), (a_this_with, .inl (cI, 70, .inl y_4.2.2.2.2.2.2.2))]) (fun y_4 => [(0, .ref a_this), (2, .int t_1), (4, .int y_4.2.1)]) 438 hl_2 rfl rfl (fun y_4 hy => ?_) (fun s_2 o h hb_2 hr_2 hx_2 => ?_)
  · skip
    subst hy
    have h := sm_l ha_2
    refine ii_iload 2 dX12_reads_438 rfl ?_
    refine ii_jn h (fun j_47 => [(a_this, .inr (12, [.ref a_this_st, .ref a_this_images, .ref a_this_isKept, .long v_this_above, .long v_this_below, .int j_47.2.2.1, .ref a_this_step, .ref a_this_with, .int j_47.2.2.2.1, .ref a_this_waits, .ref a_this_value, .ref a_this_given, .ref a_this_net, .ref a_this_together, .ref a_this_most, .ref a_this_owes, .ref a_this_can, .ref a_this_row, .ref a_this_before, .ref a_this_to, .ref a_this_on, .ref a_this_load, .ref a_this_lead, .ref a_this_bestLead, .ref a_this_silver])), (a_this_st, .inl (cI, 1951, .inl v_this_st)), (a_this_step, .inl (cI, 70, .inl j_47.2.1)), (a_this_waits, .inl (cI, 70, .inl y_4.2.2.2.2.2.2.1)), (a_this_with, .inl (cI, 70, .inl j_47.2.2.2.2))]) (fun j_47 => []) 461 (fun j_47 => [.int j_47.1]) (fun j_47 h => ?_) (fun j_47 h hjj_47 => ?_)
    · skip
      cases h
      exact hQ _ _ dX12_reads_461
    · skip
      refine ii_if_eq (tgt := 455) h dX12_reads_440 (by decide) (fun h => ?_) (fun h => ?_)
      · skip
        refine ii_bipush dX12_reads_455 kb10 ?_
        refine ii_iload_n 1 dX12_reads_457 rfl ?_
        refine ii_imul dX12_reads_458 ?_
        refine ii_iconst dX12_reads_459 kc1 ?_
        refine ii_iadd dX12_reads_460 ?_
        refine ii_lv [] rfl ?_
        cases h
        exact hjj_47
      · skip
        refine ii_aload_n 0 dX12_reads_443 rfl ?_
        obtain ⟨c_48, hc_48, h⟩ := bnd h
        refine ii_callVi (As := []) (ws' := [(a_this, .inr (12, [.ref a_this_st, .ref a_this_images, .ref a_this_isKept, .long v_this_above, .long v_this_below, .int c_48.2.2.1, .ref a_this_step, .ref a_this_with, .int c_48.2.2.2.1, .ref a_this_waits, .ref a_this_value, .ref a_this_given, .ref a_this_net, .ref a_this_together, .ref a_this_most, .ref a_this_owes, .ref a_this_can, .ref a_this_row, .ref a_this_before, .ref a_this_to, .ref a_this_on, .ref a_this_load, .ref a_this_lead, .ref a_this_bestLead, .ref a_this_silver])), (a_this_st, .inl (cI, 1951, .inl v_this_st)), (a_this_step, .inl (cI, 70, .inl c_48.2.1)), (a_this_waits, .inl (cI, 70, .inl y_4.2.2.2.2.2.2.1)), (a_this_with, .inl (cI, 70, .inl c_48.2.2.2.2))]) (st := []) (c_X12_closes l D cI cJ cZ cH a_this a_this_before a_this_bestLead a_this_can a_this_given a_this_images a_this_isKept a_this_lead a_this_load a_this_most a_this_net a_this_on a_this_owes a_this_row a_this_silver a_this_st a_this_step a_this_to a_this_together a_this_value a_this_waits a_this_with v_this_above v_this_below y_4.2.2.2.1 y_4.2.2.2.2.1 y_4.2.2.2.2.2.1 y_4.2.2.2.2.2.2.1 y_4.2.2.2.2.2.2.2 hc_48) gzX12_115 rfl rfl rfl eV_X12_closes ⟨Nat.le_of_ble_eq_true rfl, Nat.le_of_ble_eq_true rfl⟩ rfl 0 rfl rfl [0, 2, 3, 4] rfl rfl rfl rfl rfl (Nat.le_of_ble_eq_true rfl) (Nat.le_refl _) (Nat.le_refl _) rfl dX12_reads_444 ?_
        refine ii_iconst dX12_reads_447 kcm1 ?_
        refine ii_icmp_ne (tgt := 455) h dX12_reads_448 (by decide) (fun h => ?_) (fun h => ?_)
        · skip
          refine ii_bipush dX12_reads_455 kb10 ?_
          refine ii_iload_n 1 dX12_reads_457 rfl ?_
          refine ii_imul dX12_reads_458 ?_
          refine ii_iconst dX12_reads_459 kc1 ?_
          refine ii_iadd dX12_reads_460 ?_
          refine ii_lv [] rfl ?_
          cases h
          exact hjj_47
        · skip
          refine ii_iconst dX12_reads_451 kcm1 ?_
          refine ii_goto (tgt := 461) dX12_reads_452 (by decide) ?_
          refine ii_lv [] rfl ?_
          cases h
          exact hjj_47
  · skip
    refine ii_iload 5 dX12_reads_25 rfl ?_
    refine ii_iload_n 2 dX12_reads_27 rfl ?_
    refine ii_icmp_ge (tgt := 438) h dX12_reads_28 (by decide) (fun h => ?_) (fun h => ?_)
    · skip
      refine ii_lv [0, 2, 4] rfl ?_
      cases h
      exact hx_2 (s_2.1, s_2.2.1, s_2.2.2.1, s_2.2.2.2.1, s_2.2.2.2.2.1, s_2.2.2.2.2.2.1, s_2.2.2.2.2.2.2.1, s_2.2.2.2.2.2.2.2) (hr_2 _ rfl)
    · skip
      refine ii_aload_n 0 dX12_reads_31 rfl ?_
      refine ii_get (C := RX12) (T := TX12) (N := 25) (ci := 12) izX12 0 rfl rfl 0 (by decide) kX12_7 rfl dX12_reads_32 ?_
      refine ii_iload_n 1 dX12_reads_35 rfl ?_
      refine ii_iconst dX12_reads_36 kc1 ?_
      refine ii_iadd dX12_reads_37 ?_
      refine ii_iload 5 dX12_reads_38 rfl ?_
      refine ii_iadd dX12_reads_40 ?_
      refine ii_iald h 1 0 rfl rfl dX12_reads_41 (fun t_5 h => ?_)
      refine ii_istore (lv' := [(6, .int t_5), (0, .ref a_this), (1, .int p0), (2, .int t_1), (3, .int s_2.1), (4, .int s_2.2.1), (5, .int s_2.2.2.1)]) dX12_reads_42 (by decide) rfl ?_
      refine ii_iload 0 dX12_reads_44 rfl ?_
      refine ii_bipush dX12_reads_46 kb32 ?_
      refine ii_icmp_ne (tgt := 57) h dX12_reads_48 (by decide) (fun h => ?_) (fun h => ?_)
      · skip
        refine ii_iload 5 dX12_reads_57 rfl ?_
        refine ii_if_eq (tgt := 204) h dX12_reads_59 (by decide) (fun h => ?_) (fun h => ?_)
        · skip
          refine ii_iload 0 dX12_reads_204 rfl ?_
          refine ii_i2l dX12_reads_206 ?_
          refine ii_ldc2 (v := 48) dX12_reads_207 kX12_126 ?_
          refine ii_ldc2 (v := 57) dX12_reads_210 kX12_128 ?_
          obtain ⟨c_6, hc_6, h⟩ := bnd h
          refine ii_callSi (As := [.long t_5.toInt64, .long (48 : Int64), .long (57 : Int64)]) (ws' := [(a_this, .inr (12, [.ref a_this_st, .ref a_this_images, .ref a_this_isKept, .long v_this_above, .long v_this_below, .int s_2.2.2.2.2.1, .ref a_this_step, .ref a_this_with, .int s_2.2.2.2.2.2.1, .ref a_this_waits, .ref a_this_value, .ref a_this_given, .ref a_this_net, .ref a_this_together, .ref a_this_most, .ref a_this_owes, .ref a_this_can, .ref a_this_row, .ref a_this_before, .ref a_this_to, .ref a_this_on, .ref a_this_load, .ref a_this_lead, .ref a_this_bestLead, .ref a_this_silver])), (a_this_st, .inl (cI, 1951, .inl v_this_st)), (a_this_step, .inl (cI, 70, .inl s_2.2.2.2.1)), (a_this_waits, .inl (cI, 70, .inl s_2.2.2.2.2.2.2.1)), (a_this_with, .inl (cI, 70, .inl s_2.2.2.2.2.2.2.2))]) (st := []) (c_X12_in l D cI cJ cZ cH t_5.toInt64 (48 : Int64) (57 : Int64) hc_6) gzX12_79 rfl rfl rfl eS_X12_in ⟨Nat.le_of_ble_eq_true rfl, Nat.le_of_ble_eq_true rfl⟩ rfl [] rfl rfl rfl rfl rfl (Nat.le_of_ble_eq_true rfl) (Nat.le_refl _) (Nat.le_refl _) rfl dX12_reads_213 ?_
          refine ii_if_eq (tgt := 321) h dX12_reads_216 (by decide) (fun h => ?_) (fun h => ?_)
          · skip
            refine ii_iload 0 dX12_reads_321 rfl ?_
            obtain ⟨c_7, hc_7, h⟩ := bnd h
            refine ii_callSi (As := [.int t_5]) (ws' := [(a_this, .inr (12, [.ref a_this_st, .ref a_this_images, .ref a_this_isKept, .long v_this_above, .long v_this_below, .int s_2.2.2.2.2.1, .ref a_this_step, .ref a_this_with, .int s_2.2.2.2.2.2.1, .ref a_this_waits, .ref a_this_value, .ref a_this_given, .ref a_this_net, .ref a_this_together, .ref a_this_most, .ref a_this_owes, .ref a_this_can, .ref a_this_row, .ref a_this_before, .ref a_this_to, .ref a_this_on, .ref a_this_load, .ref a_this_lead, .ref a_this_bestLead, .ref a_this_silver])), (a_this_st, .inl (cI, 1951, .inl v_this_st)), (a_this_step, .inl (cI, 70, .inl s_2.2.2.2.1)), (a_this_waits, .inl (cI, 70, .inl s_2.2.2.2.2.2.2.1)), (a_this_with, .inl (cI, 70, .inl s_2.2.2.2.2.2.2.2))]) (st := []) (c_X12_nameOf l D cI cJ cZ cH t_5 hc_7) gzX12_130 rfl rfl rfl eS_X12_nameOf ⟨Nat.le_of_ble_eq_true rfl, Nat.le_of_ble_eq_true rfl⟩ rfl [] rfl rfl rfl rfl rfl (Nat.le_of_ble_eq_true rfl) (Nat.le_refl _) (Nat.le_refl _) rfl dX12_reads_323 ?_
            refine ii_iconst dX12_reads_326 kcm1 ?_
            refine ii_icmp_eq (tgt := 355) h dX12_reads_327 (by decide) (fun h => ?_) (fun h => ?_)
            · skip
              refine ii_iload 0 dX12_reads_355 rfl ?_
              refine ii_bipush dX12_reads_357 kb40 ?_
              refine ii_icmp_ne (tgt := 391) h dX12_reads_359 (by decide) (fun h => ?_) (fun h => ?_)
              · skip
                refine ii_iload 0 dX12_reads_391 rfl ?_
                refine ii_bipush dX12_reads_393 kb45 ?_
                refine ii_jf (r := o) (J_X12_reads_4_405 t_5 s_2) (fun v_8 => [(a_this, .inr (12, [.ref a_this_st, .ref a_this_images, .ref a_this_isKept, .long v_this_above, .long v_this_below, .int s_2.2.2.2.2.1, .ref a_this_step, .ref a_this_with, .int s_2.2.2.2.2.2.1, .ref a_this_waits, .ref a_this_value, .ref a_this_given, .ref a_this_net, .ref a_this_together, .ref a_this_most, .ref a_this_owes, .ref a_this_can, .ref a_this_row, .ref a_this_before, .ref a_this_to, .ref a_this_on, .ref a_this_load, .ref a_this_lead, .ref a_this_bestLead, .ref a_this_silver])), (a_this_st, .inl (cI, 1951, .inl v_this_st)), (a_this_step, .inl (cI, 70, .inl s_2.2.2.2.1)), (a_this_waits, .inl (cI, 70, .inl s_2.2.2.2.2.2.2.1)), (a_this_with, .inl (cI, 70, .inl s_2.2.2.2.2.2.2.2))]) (fun v_8 => [(0, .ref a_this), (1, .int p0), (2, .int t_1), (3, .int s_2.1), (4, .int s_2.2.1), (5, .int s_2.2.2.1), (6, .int t_5)]) 405 (fun v_8 => []) (fun v_8 h => ?_) (fun hjv_8 => ?_)
                · skip
                  refine ii_aload_n 0 dX12_reads_405 rfl ?_
                  refine ii_iload 6 dX12_reads_406 rfl ?_
                  refine ii_bipush dX12_reads_408 kb45 ?_
                  refine ii_jn h (fun j_9 => [(a_this, .inr (12, [.ref a_this_st, .ref a_this_images, .ref a_this_isKept, .long v_this_above, .long v_this_below, .int s_2.2.2.2.2.1, .ref a_this_step, .ref a_this_with, .int s_2.2.2.2.2.2.1, .ref a_this_waits, .ref a_this_value, .ref a_this_given, .ref a_this_net, .ref a_this_together, .ref a_this_most, .ref a_this_owes, .ref a_this_can, .ref a_this_row, .ref a_this_before, .ref a_this_to, .ref a_this_on, .ref a_this_load, .ref a_this_lead, .ref a_this_bestLead, .ref a_this_silver])), (a_this_st, .inl (cI, 1951, .inl v_this_st)), (a_this_step, .inl (cI, 70, .inl s_2.2.2.2.1)), (a_this_waits, .inl (cI, 70, .inl s_2.2.2.2.2.2.2.1)), (a_this_with, .inl (cI, 70, .inl s_2.2.2.2.2.2.2.2))]) (fun j_9 => [(0, .ref a_this), (1, .int p0), (2, .int t_1), (3, .int s_2.1), (4, .int s_2.2.1), (5, .int s_2.2.2.1)]) 418 (fun j_9 => [.int j_9, .ref a_this]) (fun j_9 h => ?_) (fun j_9 h hjj_9 => ?_)
                  · skip
                    obtain ⟨c_10, hc_10, h⟩ := bnd h
                    refine ii_callVv (As := [.int j_9]) (ws' := [(a_this, .inr (12, [.ref a_this_st, .ref a_this_images, .ref a_this_isKept, .long v_this_above, .long v_this_below, .int s_2.2.2.2.2.1, .ref a_this_step, .ref a_this_with, .int c_10.1, .ref a_this_waits, .ref a_this_value, .ref a_this_given, .ref a_this_net, .ref a_this_together, .ref a_this_most, .ref a_this_owes, .ref a_this_can, .ref a_this_row, .ref a_this_before, .ref a_this_to, .ref a_this_on, .ref a_this_load, .ref a_this_lead, .ref a_this_bestLead, .ref a_this_silver])), (a_this_st, .inl (cI, 1951, .inl v_this_st)), (a_this_step, .inl (cI, 70, .inl s_2.2.2.2.1)), (a_this_waits, .inl (cI, 70, .inl c_10.2)), (a_this_with, .inl (cI, 70, .inl s_2.2.2.2.2.2.2.2))]) (st := []) (c_X12_waitsWith l D cI cJ cZ cH a_this a_this_before a_this_bestLead a_this_can a_this_given a_this_images a_this_isKept a_this_lead a_this_load a_this_most a_this_net a_this_on a_this_owes a_this_row a_this_silver a_this_st a_this_step a_this_to a_this_together a_this_value a_this_waits a_this_with v_this_above v_this_below s_2.2.2.2.2.1 s_2.2.2.2.2.2.1 s_2.2.2.2.2.2.2.1 j_9 hc_10) gzX12_112 rfl rfl rfl eV_X12_waitsWith ⟨Nat.le_of_ble_eq_true rfl, Nat.le_of_ble_eq_true rfl⟩ rfl 0 rfl rfl [0, 3] rfl rfl rfl rfl rfl (Nat.le_of_ble_eq_true rfl) (Nat.le_refl _) (Nat.le_refl _) rfl dX12_reads_418 ?_
                    refine ii_iinc (fun x_11 => [(5, .int x_11), (0, .ref a_this), (1, .int p0), (2, .int t_1), (3, .int s_2.1), (4, .int s_2.2.1)]) h 5 dX12_reads_421 rfl kc1 (by decide) (fun _ => rfl) (fun x_11 h => ?_)
                    refine ii_goto (tgt := 435) dX12_reads_424 (by decide) ?_
                    refine ii_goto (tgt := 25) dX12_reads_435 (by decide) ?_
                    refine ii_lv [1, 2, 3, 4, 5, 0] rfl ?_
                    cases h
                    exact hb_2 (s_2.1, s_2.2.1, x_11, s_2.2.2.2.1, s_2.2.2.2.2.1, c_10.1, c_10.2, s_2.2.2.2.2.2.2.2) rfl
                  · skip
                    refine ii_icmp_ne (tgt := 417) h dX12_reads_410 (by decide) (fun h => ?_) (fun h => ?_)
                    · skip
                      refine ii_iconst dX12_reads_417 kc2 ?_
                      refine ii_lv [0, 1, 2, 3, 4, 5] rfl ?_
                      cases h
                      exact hjj_9
                    · skip
                      refine ii_iconst dX12_reads_413 kc3 ?_
                      refine ii_goto (tgt := 418) dX12_reads_414 (by decide) ?_
                      refine ii_lv [0, 1, 2, 3, 4, 5] rfl ?_
                      cases h
                      exact hjj_9
                · skip
                  refine ii_icmp_eq (tgt := 405) h dX12_reads_395 (by decide) (fun h => ?_) (fun h => ?_)
                  · skip
                    refine ii_lv [1, 2, 3, 4, 5, 6, 0] rfl ?_
                    exact hjv_8 () h
                  · skip
                    refine ii_iload 0 dX12_reads_398 rfl ?_
                    refine ii_bipush dX12_reads_400 kb33 ?_
                    refine ii_icmp_ne (tgt := 427) h dX12_reads_402 (by decide) (fun h => ?_) (fun h => ?_)
                    · skip
                      refine ii_bipush dX12_reads_427 kb10 ?_
                      refine ii_iload 6 dX12_reads_429 rfl ?_
                      refine ii_imul dX12_reads_431 ?_
                      refine ii_iconst dX12_reads_432 kc1 ?_
                      refine ii_iadd dX12_reads_433 ?_
                      cases h
                      cases hr_2 _ rfl
                      have h := sm_r ha_2
                      cases h
                      exact hQ _ _ dX12_reads_434
                    · skip
                      refine ii_lv [1, 2, 3, 4, 5, 6, 0] rfl ?_
                      exact hjv_8 () h
              · skip
                refine ii_iload_n 4 dX12_reads_362 rfl ?_
                refine ii_bipush dX12_reads_363 kb8 ?_
                refine ii_icmp_ne (tgt := 376) h dX12_reads_365 (by decide) (fun h => ?_) (fun h => ?_)
                · skip
                  refine ii_iinc (fun x_12 => [(3, .int x_12), (6, .int t_5), (0, .ref a_this), (1, .int p0), (2, .int t_1), (4, .int s_2.2.1), (5, .int s_2.2.2.1)]) h 4 dX12_reads_376 rfl kc1 (by decide) (fun _ => rfl) (fun x_12 h => ?_)
                  refine ii_aload_n 2 dX12_reads_379 rfl ?_
                  refine ii_bipush dX12_reads_380 kb13 ?_
                  obtain ⟨c_13, hc_13, h⟩ := bnd h
                  refine ii_callVv (As := [.int (13 : Int32)]) (ws' := [(a_this, .inr (12, [.ref a_this_st, .ref a_this_images, .ref a_this_isKept, .long v_this_above, .long v_this_below, .int s_2.2.2.2.2.1, .ref a_this_step, .ref a_this_with, .int c_13.1, .ref a_this_waits, .ref a_this_value, .ref a_this_given, .ref a_this_net, .ref a_this_together, .ref a_this_most, .ref a_this_owes, .ref a_this_can, .ref a_this_row, .ref a_this_before, .ref a_this_to, .ref a_this_on, .ref a_this_load, .ref a_this_lead, .ref a_this_bestLead, .ref a_this_silver])), (a_this_st, .inl (cI, 1951, .inl v_this_st)), (a_this_step, .inl (cI, 70, .inl s_2.2.2.2.1)), (a_this_waits, .inl (cI, 70, .inl c_13.2)), (a_this_with, .inl (cI, 70, .inl s_2.2.2.2.2.2.2.2))]) (st := []) (c_X12_waitsWith l D cI cJ cZ cH a_this a_this_before a_this_bestLead a_this_can a_this_given a_this_images a_this_isKept a_this_lead a_this_load a_this_most a_this_net a_this_on a_this_owes a_this_row a_this_silver a_this_st a_this_step a_this_to a_this_together a_this_value a_this_waits a_this_with v_this_above v_this_below s_2.2.2.2.2.1 s_2.2.2.2.2.2.1 s_2.2.2.2.2.2.2.1 (13 : Int32) hc_13) gzX12_112 rfl rfl rfl eV_X12_waitsWith ⟨Nat.le_of_ble_eq_true rfl, Nat.le_of_ble_eq_true rfl⟩ rfl 0 rfl rfl [0, 3] rfl rfl rfl rfl rfl (Nat.le_of_ble_eq_true rfl) (Nat.le_refl _) (Nat.le_refl _) rfl dX12_reads_382 ?_
                  refine ii_iinc (fun x_14 => [(5, .int x_14), (3, .int x_12), (6, .int t_5), (0, .ref a_this), (1, .int p0), (2, .int t_1), (4, .int s_2.2.1)]) h 6 dX12_reads_385 rfl kc1 (by decide) (fun _ => rfl) (fun x_14 h => ?_)
                  refine ii_goto (tgt := 435) dX12_reads_388 (by decide) ?_
                  refine ii_goto (tgt := 25) dX12_reads_435 (by decide) ?_
                  refine ii_lv [3, 4, 5, 1, 6, 0] rfl ?_
                  cases h
                  exact hb_2 (x_12, s_2.2.1, x_14, s_2.2.2.2.1, s_2.2.2.2.2.1, c_13.1, c_13.2, s_2.2.2.2.2.2.2.2) rfl
                · skip
                  refine ii_bipush dX12_reads_368 kb10 ?_
                  refine ii_iload 6 dX12_reads_370 rfl ?_
                  refine ii_imul dX12_reads_372 ?_
                  refine ii_iconst dX12_reads_373 kc3 ?_
                  refine ii_iadd dX12_reads_374 ?_
                  cases h
                  cases hr_2 _ rfl
                  have h := sm_r ha_2
                  cases h
                  exact hQ _ _ dX12_reads_375
            · skip
              refine ii_aload_n 1 dX12_reads_330 rfl ?_
              refine ii_iconst dX12_reads_331 kc1 ?_
              refine ii_iload 0 dX12_reads_332 rfl ?_
              obtain ⟨c_15, hc_15, h⟩ := bnd h
              refine ii_callSi (As := [.int t_5]) (ws' := [(a_this, .inr (12, [.ref a_this_st, .ref a_this_images, .ref a_this_isKept, .long v_this_above, .long v_this_below, .int s_2.2.2.2.2.1, .ref a_this_step, .ref a_this_with, .int s_2.2.2.2.2.2.1, .ref a_this_waits, .ref a_this_value, .ref a_this_given, .ref a_this_net, .ref a_this_together, .ref a_this_most, .ref a_this_owes, .ref a_this_can, .ref a_this_row, .ref a_this_before, .ref a_this_to, .ref a_this_on, .ref a_this_load, .ref a_this_lead, .ref a_this_bestLead, .ref a_this_silver])), (a_this_st, .inl (cI, 1951, .inl v_this_st)), (a_this_step, .inl (cI, 70, .inl s_2.2.2.2.1)), (a_this_waits, .inl (cI, 70, .inl s_2.2.2.2.2.2.2.1)), (a_this_with, .inl (cI, 70, .inl s_2.2.2.2.2.2.2.2))]) (st := [.int (1 : Int32), .ref a_this]) (c_X12_nameOf l D cI cJ cZ cH t_5 hc_15) gzX12_130 rfl rfl rfl eS_X12_nameOf ⟨Nat.le_of_ble_eq_true rfl, Nat.le_of_ble_eq_true rfl⟩ rfl [] rfl rfl rfl rfl rfl (Nat.le_of_ble_eq_true rfl) (Nat.le_refl _) (Nat.le_refl _) rfl dX12_reads_334 ?_
              obtain ⟨c_16, hc_16, h⟩ := bnd h
              refine ii_callVv (As := [.int (1 : Int32), .int c_15]) (ws' := [(a_this, .inr (12, [.ref a_this_st, .ref a_this_images, .ref a_this_isKept, .long v_this_above, .long v_this_below, .int c_16.2.1, .ref a_this_step, .ref a_this_with, .int s_2.2.2.2.2.2.1, .ref a_this_waits, .ref a_this_value, .ref a_this_given, .ref a_this_net, .ref a_this_together, .ref a_this_most, .ref a_this_owes, .ref a_this_can, .ref a_this_row, .ref a_this_before, .ref a_this_to, .ref a_this_on, .ref a_this_load, .ref a_this_lead, .ref a_this_bestLead, .ref a_this_silver])), (a_this_st, .inl (cI, 1951, .inl v_this_st)), (a_this_step, .inl (cI, 70, .inl c_16.1)), (a_this_waits, .inl (cI, 70, .inl s_2.2.2.2.2.2.2.1)), (a_this_with, .inl (cI, 70, .inl c_16.2.2))]) (st := []) (c_X12_emits l D cI cJ cZ cH a_this a_this_before a_this_bestLead a_this_can a_this_given a_this_images a_this_isKept a_this_lead a_this_load a_this_most a_this_net a_this_on a_this_owes a_this_row a_this_silver a_this_st a_this_step a_this_to a_this_together a_this_value a_this_waits a_this_with v_this_above v_this_below s_2.2.2.2.1 s_2.2.2.2.2.1 s_2.2.2.2.2.2.1 s_2.2.2.2.2.2.2.2 (1 : Int32) c_15 hc_16) gzX12_104 rfl rfl rfl eV_X12_emits ⟨Nat.le_of_ble_eq_true rfl, Nat.le_of_ble_eq_true rfl⟩ rfl 0 rfl rfl [0, 2, 4] rfl rfl rfl rfl rfl (Nat.le_of_ble_eq_true rfl) (Nat.le_refl _) (Nat.le_refl _) rfl dX12_reads_337 ?_
              refine ii_aload_n 1 dX12_reads_340 rfl ?_
              refine ii_bipush dX12_reads_341 kb6 ?_
              obtain ⟨c_17, hc_17, h⟩ := bnd h
              refine ii_callVv (As := [.int (6 : Int32)]) (ws' := [(a_this, .inr (12, [.ref a_this_st, .ref a_this_images, .ref a_this_isKept, .long v_this_above, .long v_this_below, .int c_17.2.1, .ref a_this_step, .ref a_this_with, .int c_17.2.2.1, .ref a_this_waits, .ref a_this_value, .ref a_this_given, .ref a_this_net, .ref a_this_together, .ref a_this_most, .ref a_this_owes, .ref a_this_can, .ref a_this_row, .ref a_this_before, .ref a_this_to, .ref a_this_on, .ref a_this_load, .ref a_this_lead, .ref a_this_bestLead, .ref a_this_silver])), (a_this_st, .inl (cI, 1951, .inl v_this_st)), (a_this_step, .inl (cI, 70, .inl c_17.1)), (a_this_waits, .inl (cI, 70, .inl s_2.2.2.2.2.2.2.1)), (a_this_with, .inl (cI, 70, .inl c_17.2.2.2))]) (st := []) (c_X12_settles l D cI cJ cZ cH a_this a_this_before a_this_bestLead a_this_can a_this_given a_this_images a_this_isKept a_this_lead a_this_load a_this_most a_this_net a_this_on a_this_owes a_this_row a_this_silver a_this_st a_this_step a_this_to a_this_together a_this_value a_this_waits a_this_with v_this_above v_this_below c_16.1 c_16.2.1 s_2.2.2.2.2.2.1 s_2.2.2.2.2.2.2.1 c_16.2.2 (6 : Int32) hc_17) gzX12_108 rfl rfl rfl eV_X12_settles ⟨Nat.le_of_ble_eq_true rfl, Nat.le_of_ble_eq_true rfl⟩ rfl 0 rfl rfl [0, 2, 3, 4] rfl rfl rfl rfl rfl (Nat.le_of_ble_eq_true rfl) (Nat.le_refl _) (Nat.le_refl _) rfl dX12_reads_343 ?_
              refine ii_iconst dX12_reads_346 kc1 ?_
              refine ii_istore (lv' := [(4, .int (1 : Int32)), (6, .int t_5), (0, .ref a_this), (1, .int p0), (2, .int t_1), (3, .int s_2.1), (5, .int s_2.2.2.1)]) dX12_reads_347 (by decide) rfl ?_
              refine ii_iinc (fun x_18 => [(5, .int x_18), (4, .int (1 : Int32)), (6, .int t_5), (0, .ref a_this), (1, .int p0), (2, .int t_1), (3, .int s_2.1)]) h 6 dX12_reads_349 rfl kc1 (by decide) (fun _ => rfl) (fun x_18 h => ?_)
              refine ii_goto (tgt := 435) dX12_reads_352 (by decide) ?_
              refine ii_goto (tgt := 25) dX12_reads_435 (by decide) ?_
              refine ii_lv [3, 4, 5, 6, 1, 0] rfl ?_
              cases h
              exact hb_2 (s_2.1, (1 : Int32), x_18, c_17.1, c_17.2.1, c_17.2.2.1, s_2.2.2.2.2.2.2.1, c_17.2.2.2) rfl
          · skip
            refine ii_iload 6 dX12_reads_219 rfl ?_
            refine ii_istore (lv' := [(7, .int s_2.2.2.1), (6, .int t_5), (0, .ref a_this), (1, .int p0), (2, .int t_1), (3, .int s_2.1), (4, .int s_2.2.1), (5, .int s_2.2.2.1)]) dX12_reads_221 (by decide) rfl ?_
            refine ii_iconst dX12_reads_223 kc0 ?_
            refine ii_istore (lv' := [(8, .int (0 : Int32)), (7, .int s_2.2.2.1), (6, .int t_5), (0, .ref a_this), (1, .int p0), (2, .int t_1), (3, .int s_2.1), (4, .int s_2.2.1), (5, .int s_2.2.2.1)]) dX12_reads_224 (by decide) rfl ?_
            refine ii_lv [3, 4, 5, 6, 8, 1, 0] rfl ?_
            obtain ⟨x_20, hl_19, ha_19⟩ := bnd h
            refine ii_loopR (fun s_19 => [(a_this, .inr (12, [.ref a_this_st, .ref a_this_images, .ref a_this_isKept, .long v_this_above, .long v_this_below, .int s_2.2.2.2.2.1, .ref a_this_step, .ref a_this_with, .int s_2.2.2.2.2.2.1, .ref a_this_waits, .ref a_this_value, .ref a_this_given, .ref a_this_net, .ref a_this_together, .ref a_this_most, .ref a_this_owes, .ref a_this_can, .ref a_this_row, .ref a_this_before, .ref a_this_to, .ref a_this_on, .ref a_this_load, .ref a_this_lead, .ref a_this_bestLead, .ref a_this_silver])), (a_this_st, .inl (cI, 1951, .inl v_this_st)), (a_this_step, .inl (cI, 70, .inl s_2.2.2.2.1)), (a_this_waits, .inl (cI, 70, .inl s_2.2.2.2.2.2.2.1)), (a_this_with, .inl (cI, 70, .inl s_2.2.2.2.2.2.2.2))]) (fun s_19 => [(0, .ref a_this), (1, .int p0), (2, .int t_1), (3, .int s_2.1), (5, .int s_19.1), (7, .int s_2.2.2.1), (8, .int s_19.2)]) (fun y_21 => [(a_this, .inr (12, [.ref a_this_st, .ref a_this_images, .ref a_this_isKept, .long v_this_above, .long v_this_below, .int s_2.2.2.2.2.1, .ref a_this_step, .ref a_this_with, .int s_2.2.2.2.2.2.1, .ref a_this_waits, .ref a_this_value, .ref a_this_given, .ref a_this_net, .ref a_this_together, .ref a_this_most, .ref a_this_owes, .ref a_this_can, .ref a_this_row, .ref a_this_before, .ref a_this_to, .ref a_this_on, .ref a_this_load, .ref a_this_lead, .ref a_this_bestLead, .ref a_this_silver])), (a_this_st, .inl (cI, 1951, .inl v_this_st)), (a_this_step, .inl (cI, 70, .inl s_2.2.2.2.1)), (a_this_waits, .inl (cI, 70, .inl s_2.2.2.2.2.2.2.1)), (a_this_with, .inl (cI, 70, .inl s_2.2.2.2.2.2.2.2))]) (fun y_21 => [(0, .ref a_this), (1, .int p0), (2, .int t_1), (3, .int s_2.1), (5, .int y_21.1), (8, .int y_21.2)]) 302 hl_19 rfl rfl (fun y_21 hy => ?_) (fun s_19 o h hb_19 hr_19 hx_19 => ?_)
            · skip
              subst hy
              have h := sm_l ha_19
              refine ii_aload_n 0 dX12_reads_302 rfl ?_
              refine ii_iconst dX12_reads_303 kc0 ?_
              refine ii_iload 5 dX12_reads_304 rfl ?_
              obtain ⟨c_27, hc_27, h⟩ := bnd h
              refine ii_callVv (As := [.int (0 : Int32), .int y_21.2]) (ws' := [(a_this, .inr (12, [.ref a_this_st, .ref a_this_images, .ref a_this_isKept, .long v_this_above, .long v_this_below, .int c_27.2.1, .ref a_this_step, .ref a_this_with, .int s_2.2.2.2.2.2.1, .ref a_this_waits, .ref a_this_value, .ref a_this_given, .ref a_this_net, .ref a_this_together, .ref a_this_most, .ref a_this_owes, .ref a_this_can, .ref a_this_row, .ref a_this_before, .ref a_this_to, .ref a_this_on, .ref a_this_load, .ref a_this_lead, .ref a_this_bestLead, .ref a_this_silver])), (a_this_st, .inl (cI, 1951, .inl v_this_st)), (a_this_step, .inl (cI, 70, .inl c_27.1)), (a_this_waits, .inl (cI, 70, .inl s_2.2.2.2.2.2.2.1)), (a_this_with, .inl (cI, 70, .inl c_27.2.2))]) (st := []) (c_X12_emits l D cI cJ cZ cH a_this a_this_before a_this_bestLead a_this_can a_this_given a_this_images a_this_isKept a_this_lead a_this_load a_this_most a_this_net a_this_on a_this_owes a_this_row a_this_silver a_this_st a_this_step a_this_to a_this_together a_this_value a_this_waits a_this_with v_this_above v_this_below s_2.2.2.2.1 s_2.2.2.2.2.1 s_2.2.2.2.2.2.1 s_2.2.2.2.2.2.2.2 (0 : Int32) y_21.2 hc_27) gzX12_104 rfl rfl rfl eV_X12_emits ⟨Nat.le_of_ble_eq_true rfl, Nat.le_of_ble_eq_true rfl⟩ rfl 0 rfl rfl [0, 2, 4] rfl rfl rfl rfl rfl (Nat.le_of_ble_eq_true rfl) (Nat.le_refl _) (Nat.le_refl _) rfl dX12_reads_306 ?_
              refine ii_aload_n 0 dX12_reads_309 rfl ?_
              refine ii_bipush dX12_reads_310 kb6 ?_
              obtain ⟨c_28, hc_28, h⟩ := bnd h
              refine ii_callVv (As := [.int (6 : Int32)]) (ws' := [(a_this, .inr (12, [.ref a_this_st, .ref a_this_images, .ref a_this_isKept, .long v_this_above, .long v_this_below, .int c_28.2.1, .ref a_this_step, .ref a_this_with, .int c_28.2.2.1, .ref a_this_waits, .ref a_this_value, .ref a_this_given, .ref a_this_net, .ref a_this_together, .ref a_this_most, .ref a_this_owes, .ref a_this_can, .ref a_this_row, .ref a_this_before, .ref a_this_to, .ref a_this_on, .ref a_this_load, .ref a_this_lead, .ref a_this_bestLead, .ref a_this_silver])), (a_this_st, .inl (cI, 1951, .inl v_this_st)), (a_this_step, .inl (cI, 70, .inl c_28.1)), (a_this_waits, .inl (cI, 70, .inl s_2.2.2.2.2.2.2.1)), (a_this_with, .inl (cI, 70, .inl c_28.2.2.2))]) (st := []) (c_X12_settles l D cI cJ cZ cH a_this a_this_before a_this_bestLead a_this_can a_this_given a_this_images a_this_isKept a_this_lead a_this_load a_this_most a_this_net a_this_on a_this_owes a_this_row a_this_silver a_this_st a_this_step a_this_to a_this_together a_this_value a_this_waits a_this_with v_this_above v_this_below c_27.1 c_27.2.1 s_2.2.2.2.2.2.1 s_2.2.2.2.2.2.2.1 c_27.2.2 (6 : Int32) hc_28) gzX12_108 rfl rfl rfl eV_X12_settles ⟨Nat.le_of_ble_eq_true rfl, Nat.le_of_ble_eq_true rfl⟩ rfl 0 rfl rfl [0, 2, 3, 4] rfl rfl rfl rfl rfl (Nat.le_of_ble_eq_true rfl) (Nat.le_refl _) (Nat.le_refl _) rfl dX12_reads_312 ?_
              refine ii_iconst dX12_reads_315 kc1 ?_
              refine ii_istore (lv' := [(4, .int (1 : Int32)), (0, .ref a_this), (1, .int p0), (2, .int t_1), (3, .int s_2.1), (5, .int y_21.1), (8, .int y_21.2)]) dX12_reads_316 (by decide) rfl ?_
              refine ii_goto (tgt := 435) dX12_reads_318 (by decide) ?_
              refine ii_goto (tgt := 25) dX12_reads_435 (by decide) ?_
              refine ii_lv [1, 2, 3, 4, 0, 5] rfl ?_
              cases h
              exact hb_2 (s_2.1, (1 : Int32), y_21.1, c_28.1, c_28.2.1, c_28.2.2.1, s_2.2.2.2.2.2.2.1, c_28.2.2.2) rfl
            · skip
              refine ii_iload 4 dX12_reads_226 rfl ?_
              refine ii_iload_n 2 dX12_reads_228 rfl ?_
              refine ii_icmp_ge (tgt := 302) h dX12_reads_229 (by decide) (fun h => ?_) (fun h => ?_)
              · skip
                refine ii_lv [0, 1, 2, 3, 4, 6] rfl ?_
                cases h
                exact hx_19 (s_19.1, s_19.2) (hr_19 _ rfl)
              · skip
                refine ii_aload_n 0 dX12_reads_232 rfl ?_
                refine ii_get (C := RX12) (T := TX12) (N := 25) (ci := 12) izX12 0 rfl rfl 0 (by decide) kX12_7 rfl dX12_reads_233 ?_
                refine ii_iload_n 1 dX12_reads_236 rfl ?_
                refine ii_iconst dX12_reads_237 kc1 ?_
                refine ii_iadd dX12_reads_238 ?_
                refine ii_iload 4 dX12_reads_239 rfl ?_
                refine ii_iadd dX12_reads_241 ?_
                refine ii_iald h 1 0 rfl rfl dX12_reads_242 (fun t_22 h => ?_)
                refine ii_i2l dX12_reads_243 ?_
                refine ii_ldc2 (v := 48) dX12_reads_244 kX12_126 ?_
                refine ii_ldc2 (v := 57) dX12_reads_247 kX12_128 ?_
                obtain ⟨c_23, hc_23, h⟩ := bnd h
                refine ii_callSi (As := [.long t_22.toInt64, .long (48 : Int64), .long (57 : Int64)]) (ws' := [(a_this, .inr (12, [.ref a_this_st, .ref a_this_images, .ref a_this_isKept, .long v_this_above, .long v_this_below, .int s_2.2.2.2.2.1, .ref a_this_step, .ref a_this_with, .int s_2.2.2.2.2.2.1, .ref a_this_waits, .ref a_this_value, .ref a_this_given, .ref a_this_net, .ref a_this_together, .ref a_this_most, .ref a_this_owes, .ref a_this_can, .ref a_this_row, .ref a_this_before, .ref a_this_to, .ref a_this_on, .ref a_this_load, .ref a_this_lead, .ref a_this_bestLead, .ref a_this_silver])), (a_this_st, .inl (cI, 1951, .inl v_this_st)), (a_this_step, .inl (cI, 70, .inl s_2.2.2.2.1)), (a_this_waits, .inl (cI, 70, .inl s_2.2.2.2.2.2.2.1)), (a_this_with, .inl (cI, 70, .inl s_2.2.2.2.2.2.2.2))]) (st := []) (c_X12_in l D cI cJ cZ cH t_22.toInt64 (48 : Int64) (57 : Int64) hc_23) gzX12_79 rfl rfl rfl eS_X12_in ⟨Nat.le_of_ble_eq_true rfl, Nat.le_of_ble_eq_true rfl⟩ rfl [] rfl rfl rfl rfl rfl (Nat.le_of_ble_eq_true rfl) (Nat.le_refl _) (Nat.le_refl _) rfl dX12_reads_250 ?_
                refine ii_if_eq (tgt := 302) h dX12_reads_253 (by decide) (fun h => ?_) (fun h => ?_)
                · skip
                  refine ii_lv [0, 1, 2, 3, 4, 6] rfl ?_
                  cases h
                  exact hx_19 (s_19.1, s_19.2) (hr_19 _ rfl)
                · skip
                  refine ii_iload 4 dX12_reads_256 rfl ?_
                  refine ii_iload 5 dX12_reads_258 rfl ?_
                  refine ii_isub dX12_reads_260 ?_
                  refine ii_bipush dX12_reads_261 kb6 ?_
                  refine ii_icmp_ne (tgt := 274) h dX12_reads_263 (by decide) (fun h => ?_) (fun h => ?_)
                  · skip
                    refine ii_bipush dX12_reads_274 kb10 ?_
                    refine ii_iload 6 dX12_reads_276 rfl ?_
                    refine ii_imul dX12_reads_278 ?_
                    refine ii_aload_n 0 dX12_reads_279 rfl ?_
                    refine ii_get (C := RX12) (T := TX12) (N := 25) (ci := 12) izX12 0 rfl rfl 0 (by decide) kX12_7 rfl dX12_reads_280 ?_
                    refine ii_iload_n 1 dX12_reads_283 rfl ?_
                    refine ii_iconst dX12_reads_284 kc1 ?_
                    refine ii_iadd dX12_reads_285 ?_
                    refine ii_iload 4 dX12_reads_286 rfl ?_
                    refine ii_iadd dX12_reads_288 ?_
                    refine ii_iald h 1 0 rfl rfl dX12_reads_289 (fun t_24 h => ?_)
                    refine ii_iadd dX12_reads_290 ?_
                    refine ii_bipush dX12_reads_291 kb48 ?_
                    refine ii_isub dX12_reads_293 ?_
                    refine ii_topI h (fun x_25 h => ?_)
                    refine ii_istore (lv' := [(8, .int x_25), (0, .ref a_this), (1, .int p0), (2, .int t_1), (3, .int s_2.1), (5, .int s_19.1), (7, .int s_2.2.2.1)]) dX12_reads_294 (by decide) rfl ?_
                    refine ii_iinc (fun x_26 => [(5, .int x_26), (8, .int x_25), (0, .ref a_this), (1, .int p0), (2, .int t_1), (3, .int s_2.1), (7, .int s_2.2.2.1)]) h 5 dX12_reads_296 rfl kc1 (by decide) (fun _ => rfl) (fun x_26 h => ?_)
                    refine ii_goto (tgt := 226) dX12_reads_299 (by decide) ?_
                    refine ii_lv [2, 3, 4, 5, 0, 6, 1] rfl ?_
                    cases h
                    exact hb_19 (x_26, x_25) rfl
                  · skip
                    refine ii_bipush dX12_reads_266 kb10 ?_
                    refine ii_iload 5 dX12_reads_268 rfl ?_
                    refine ii_imul dX12_reads_270 ?_
                    refine ii_iconst dX12_reads_271 kc2 ?_
                    refine ii_iadd dX12_reads_272 ?_
                    cases h
                    cases hr_19 _ rfl
                    have h := sm_r ha_19
                    cases h
                    cases hr_2 _ rfl
                    have h := sm_r ha_2
                    cases h
                    exact hQ _ _ dX12_reads_273
        · skip
          refine ii_iload 0 dX12_reads_62 rfl ?_
          refine ii_bipush dX12_reads_64 kb41 ?_
          refine ii_jf (r := o) (J_X12_reads_6_104 t_5 s_2) (fun v_29 => [(a_this, .inr (12, [.ref a_this_st, .ref a_this_images, .ref a_this_isKept, .long v_this_above, .long v_this_below, .int v_29.2.1, .ref a_this_step, .ref a_this_with, .int v_29.2.2.1, .ref a_this_waits, .ref a_this_value, .ref a_this_given, .ref a_this_net, .ref a_this_together, .ref a_this_most, .ref a_this_owes, .ref a_this_can, .ref a_this_row, .ref a_this_before, .ref a_this_to, .ref a_this_on, .ref a_this_load, .ref a_this_lead, .ref a_this_bestLead, .ref a_this_silver])), (a_this_st, .inl (cI, 1951, .inl v_this_st)), (a_this_step, .inl (cI, 70, .inl v_29.1)), (a_this_waits, .inl (cI, 70, .inl s_2.2.2.2.2.2.2.1)), (a_this_with, .inl (cI, 70, .inl v_29.2.2.2))]) (fun v_29 => [(0, .ref a_this), (1, .int p0), (2, .int t_1), (3, .int s_2.1), (5, .int s_2.2.2.1), (6, .int t_5)]) 104 (fun v_29 => []) (fun v_29 h => ?_) (fun hjv_29 => ?_)
          · skip
            refine ii_iload 5 dX12_reads_104 rfl ?_
            refine ii_bipush dX12_reads_106 kb63 ?_
            refine ii_icmp_ne (tgt := 128) h dX12_reads_108 (by decide) (fun h => ?_) (fun h => ?_)
            · skip
              refine ii_iload 5 dX12_reads_128 rfl ?_
              refine ii_bipush dX12_reads_130 kb58 ?_
              refine ii_jf (r := o) (J_X12_reads_5_163 t_5 s_2) (fun v_30 => [(a_this, .inr (12, [.ref a_this_st, .ref a_this_images, .ref a_this_isKept, .long v_this_above, .long v_this_below, .int v_30.2.1, .ref a_this_step, .ref a_this_with, .int v_30.2.2.1, .ref a_this_waits, .ref a_this_value, .ref a_this_given, .ref a_this_net, .ref a_this_together, .ref a_this_most, .ref a_this_owes, .ref a_this_can, .ref a_this_row, .ref a_this_before, .ref a_this_to, .ref a_this_on, .ref a_this_load, .ref a_this_lead, .ref a_this_bestLead, .ref a_this_silver])), (a_this_st, .inl (cI, 1951, .inl v_this_st)), (a_this_step, .inl (cI, 70, .inl v_30.1)), (a_this_waits, .inl (cI, 70, .inl s_2.2.2.2.2.2.2.1)), (a_this_with, .inl (cI, 70, .inl v_30.2.2.2))]) (fun v_30 => [(0, .ref a_this), (1, .int p0), (2, .int t_1), (3, .int s_2.1), (5, .int s_2.2.2.1), (6, .int t_5)]) 163 (fun v_30 => []) (fun v_30 h => ?_) (fun hjv_30 => ?_)
              · skip
                refine ii_iload 5 dX12_reads_163 rfl ?_
                obtain ⟨c_31, hc_31, h⟩ := bnd h
                refine ii_callSi (As := [.int t_5]) (ws' := [(a_this, .inr (12, [.ref a_this_st, .ref a_this_images, .ref a_this_isKept, .long v_this_above, .long v_this_below, .int v_30.2.1, .ref a_this_step, .ref a_this_with, .int v_30.2.2.1, .ref a_this_waits, .ref a_this_value, .ref a_this_given, .ref a_this_net, .ref a_this_together, .ref a_this_most, .ref a_this_owes, .ref a_this_can, .ref a_this_row, .ref a_this_before, .ref a_this_to, .ref a_this_on, .ref a_this_load, .ref a_this_lead, .ref a_this_bestLead, .ref a_this_silver])), (a_this_st, .inl (cI, 1951, .inl v_this_st)), (a_this_step, .inl (cI, 70, .inl v_30.1)), (a_this_waits, .inl (cI, 70, .inl s_2.2.2.2.2.2.2.1)), (a_this_with, .inl (cI, 70, .inl v_30.2.2.2))]) (st := []) (c_X12_signOf l D cI cJ cZ cH t_5 hc_31) gzX12_119 rfl rfl rfl eS_X12_signOf ⟨Nat.le_of_ble_eq_true rfl, Nat.le_of_ble_eq_true rfl⟩ rfl [] rfl rfl rfl rfl rfl (Nat.le_of_ble_eq_true rfl) (Nat.le_refl _) (Nat.le_refl _) rfl dX12_reads_165 ?_
                refine ii_iconst dX12_reads_168 kcm1 ?_
                refine ii_icmp_eq (tgt := 190) h dX12_reads_169 (by decide) (fun h => ?_) (fun h => ?_)
                · skip
                  refine ii_bipush dX12_reads_190 kb10 ?_
                  refine ii_iload 4 dX12_reads_192 rfl ?_
                  refine ii_imul dX12_reads_194 ?_
                  refine ii_iconst dX12_reads_195 kc1 ?_
                  refine ii_iadd dX12_reads_196 ?_
                  cases h
                  cases hr_2 _ rfl
                  have h := sm_r ha_2
                  cases h
                  exact hQ _ _ dX12_reads_197
                · skip
                  refine ii_aload_n 0 dX12_reads_172 rfl ?_
                  refine ii_iload 5 dX12_reads_173 rfl ?_
                  obtain ⟨c_32, hc_32, h⟩ := bnd h
                  refine ii_callSi (As := [.int t_5]) (ws' := [(a_this, .inr (12, [.ref a_this_st, .ref a_this_images, .ref a_this_isKept, .long v_this_above, .long v_this_below, .int v_30.2.1, .ref a_this_step, .ref a_this_with, .int v_30.2.2.1, .ref a_this_waits, .ref a_this_value, .ref a_this_given, .ref a_this_net, .ref a_this_together, .ref a_this_most, .ref a_this_owes, .ref a_this_can, .ref a_this_row, .ref a_this_before, .ref a_this_to, .ref a_this_on, .ref a_this_load, .ref a_this_lead, .ref a_this_bestLead, .ref a_this_silver])), (a_this_st, .inl (cI, 1951, .inl v_this_st)), (a_this_step, .inl (cI, 70, .inl v_30.1)), (a_this_waits, .inl (cI, 70, .inl s_2.2.2.2.2.2.2.1)), (a_this_with, .inl (cI, 70, .inl v_30.2.2.2))]) (st := [.ref a_this]) (c_X12_signOf l D cI cJ cZ cH t_5 hc_32) gzX12_119 rfl rfl rfl eS_X12_signOf ⟨Nat.le_of_ble_eq_true rfl, Nat.le_of_ble_eq_true rfl⟩ rfl [] rfl rfl rfl rfl rfl (Nat.le_of_ble_eq_true rfl) (Nat.le_refl _) (Nat.le_refl _) rfl dX12_reads_175 ?_
                  obtain ⟨c_33, hc_33, h⟩ := bnd h
                  refine ii_callVi (As := [.int c_32]) (ws' := [(a_this, .inr (12, [.ref a_this_st, .ref a_this_images, .ref a_this_isKept, .long v_this_above, .long v_this_below, .int c_33.2.2.1, .ref a_this_step, .ref a_this_with, .int c_33.2.2.2.1, .ref a_this_waits, .ref a_this_value, .ref a_this_given, .ref a_this_net, .ref a_this_together, .ref a_this_most, .ref a_this_owes, .ref a_this_can, .ref a_this_row, .ref a_this_before, .ref a_this_to, .ref a_this_on, .ref a_this_load, .ref a_this_lead, .ref a_this_bestLead, .ref a_this_silver])), (a_this_st, .inl (cI, 1951, .inl v_this_st)), (a_this_step, .inl (cI, 70, .inl c_33.2.1)), (a_this_waits, .inl (cI, 70, .inl c_33.2.2.2.2.1)), (a_this_with, .inl (cI, 70, .inl c_33.2.2.2.2.2))]) (st := []) (c_X12_goesOn l D cI cJ cZ cH a_this a_this_before a_this_bestLead a_this_can a_this_given a_this_images a_this_isKept a_this_lead a_this_load a_this_most a_this_net a_this_on a_this_owes a_this_row a_this_silver a_this_st a_this_step a_this_to a_this_together a_this_value a_this_waits a_this_with v_this_above v_this_below v_30.1 v_30.2.1 v_30.2.2.1 s_2.2.2.2.2.2.2.1 v_30.2.2.2 c_32 hc_33) gzX12_122 rfl rfl rfl eV_X12_goesOn ⟨Nat.le_of_ble_eq_true rfl, Nat.le_of_ble_eq_true rfl⟩ rfl 0 rfl rfl [0, 2, 3, 4] rfl rfl rfl rfl rfl (Nat.le_of_ble_eq_true rfl) (Nat.le_refl _) (Nat.le_refl _) rfl dX12_reads_178 ?_
                  refine ii_if_eq (tgt := 190) h dX12_reads_181 (by decide) (fun h => ?_) (fun h => ?_)
                  · skip
                    refine ii_bipush dX12_reads_190 kb10 ?_
                    refine ii_iload 4 dX12_reads_192 rfl ?_
                    refine ii_imul dX12_reads_194 ?_
                    refine ii_iconst dX12_reads_195 kc1 ?_
                    refine ii_iadd dX12_reads_196 ?_
                    cases h
                    cases hr_2 _ rfl
                    have h := sm_r ha_2
                    cases h
                    exact hQ _ _ dX12_reads_197
                  · skip
                    refine ii_iconst dX12_reads_184 kc0 ?_
                    refine ii_istore (lv' := [(4, .int (0 : Int32)), (0, .ref a_this), (1, .int p0), (2, .int t_1), (3, .int s_2.1), (5, .int s_2.2.2.1), (6, .int t_5)]) dX12_reads_185 (by decide) rfl ?_
                    refine ii_goto (tgt := 198) dX12_reads_187 (by decide) ?_
                    refine ii_iinc (fun x_34 => [(5, .int x_34), (4, .int (0 : Int32)), (0, .ref a_this), (1, .int p0), (2, .int t_1), (3, .int s_2.1), (6, .int t_5)]) h 5 dX12_reads_198 rfl kc1 (by decide) (fun _ => rfl) (fun x_34 h => ?_)
                    refine ii_goto (tgt := 435) dX12_reads_201 (by decide) ?_
                    refine ii_goto (tgt := 25) dX12_reads_435 (by decide) ?_
                    refine ii_lv [2, 3, 4, 5, 1, 0] rfl ?_
                    cases h
                    exact hb_2 (s_2.1, (0 : Int32), x_34, c_33.2.1, c_33.2.2.1, c_33.2.2.2.1, c_33.2.2.2.2.1, c_33.2.2.2.2.2) rfl
              · skip
                refine ii_icmp_ne (tgt := 163) h dX12_reads_132 (by decide) (fun h => ?_) (fun h => ?_)
                · skip
                  exact hjv_30 (v_29.1, v_29.2.1, v_29.2.2.1, v_29.2.2.2) h
                · skip
                  refine ii_aload_n 0 dX12_reads_135 rfl ?_
                  obtain ⟨c_35, hc_35, h⟩ := bnd h
                  refine ii_callVi (As := []) (ws' := [(a_this, .inr (12, [.ref a_this_st, .ref a_this_images, .ref a_this_isKept, .long v_this_above, .long v_this_below, .int c_35.2.2.1, .ref a_this_step, .ref a_this_with, .int c_35.2.2.2.1, .ref a_this_waits, .ref a_this_value, .ref a_this_given, .ref a_this_net, .ref a_this_together, .ref a_this_most, .ref a_this_owes, .ref a_this_can, .ref a_this_row, .ref a_this_before, .ref a_this_to, .ref a_this_on, .ref a_this_load, .ref a_this_lead, .ref a_this_bestLead, .ref a_this_silver])), (a_this_st, .inl (cI, 1951, .inl v_this_st)), (a_this_step, .inl (cI, 70, .inl c_35.2.1)), (a_this_waits, .inl (cI, 70, .inl s_2.2.2.2.2.2.2.1)), (a_this_with, .inl (cI, 70, .inl c_35.2.2.2.2))]) (st := []) (c_X12_closes l D cI cJ cZ cH a_this a_this_before a_this_bestLead a_this_can a_this_given a_this_images a_this_isKept a_this_lead a_this_load a_this_most a_this_net a_this_on a_this_owes a_this_row a_this_silver a_this_st a_this_step a_this_to a_this_together a_this_value a_this_waits a_this_with v_this_above v_this_below v_29.1 v_29.2.1 v_29.2.2.1 s_2.2.2.2.2.2.2.1 v_29.2.2.2 hc_35) gzX12_115 rfl rfl rfl eV_X12_closes ⟨Nat.le_of_ble_eq_true rfl, Nat.le_of_ble_eq_true rfl⟩ rfl 0 rfl rfl [0, 2, 3, 4] rfl rfl rfl rfl rfl (Nat.le_of_ble_eq_true rfl) (Nat.le_refl _) (Nat.le_refl _) rfl dX12_reads_136 ?_
                  refine ii_bipush dX12_reads_139 kb14 ?_
                  refine ii_icmp_ne (tgt := 163) h dX12_reads_141 (by decide) (fun h => ?_) (fun h => ?_)
                  · skip
                    exact hjv_30 (c_35.2.1, c_35.2.2.1, c_35.2.2.2.1, c_35.2.2.2.2) h
                  · skip
                    refine ii_aload_n 0 dX12_reads_144 rfl ?_
                    refine ii_get (C := RX12) (T := TX12) (N := 25) (ci := 12) izX12 0 rfl rfl 9 (by decide) kX12_26 rfl dX12_reads_145 ?_
                    refine ii_aload_n 0 dX12_reads_148 rfl ?_
                    refine ii_get (C := RX12) (T := TX12) (N := 25) (ci := 12) izX12 0 rfl rfl 8 (by decide) kX12_98 rfl dX12_reads_149 ?_
                    refine ii_iconst dX12_reads_152 kc1 ?_
                    refine ii_isub dX12_reads_153 ?_
                    refine ii_bipush dX12_reads_154 kb15 ?_
                    refine ii_iast (fun g_36 => [(a_this, .inr (12, [.ref a_this_st, .ref a_this_images, .ref a_this_isKept, .long v_this_above, .long v_this_below, .int c_35.2.2.1, .ref a_this_step, .ref a_this_with, .int c_35.2.2.2.1, .ref a_this_waits, .ref a_this_value, .ref a_this_given, .ref a_this_net, .ref a_this_together, .ref a_this_most, .ref a_this_owes, .ref a_this_can, .ref a_this_row, .ref a_this_before, .ref a_this_to, .ref a_this_on, .ref a_this_load, .ref a_this_lead, .ref a_this_bestLead, .ref a_this_silver])), (a_this_st, .inl (cI, 1951, .inl v_this_st)), (a_this_step, .inl (cI, 70, .inl c_35.2.1)), (a_this_waits, .inl (cI, 70, .inl g_36)), (a_this_with, .inl (cI, 70, .inl c_35.2.2.2.2))]) h 3 0 rfl rfl dX12_reads_156 (fun _ => rfl) (fun g_36 h => ?_)
                    refine ii_iconst dX12_reads_157 kc0 ?_
                    refine ii_istore (lv' := [(4, .int (0 : Int32)), (0, .ref a_this), (1, .int p0), (2, .int t_1), (3, .int s_2.1), (5, .int s_2.2.2.1), (6, .int t_5)]) dX12_reads_158 (by decide) rfl ?_
                    refine ii_goto (tgt := 198) dX12_reads_160 (by decide) ?_
                    refine ii_iinc (fun x_37 => [(5, .int x_37), (4, .int (0 : Int32)), (0, .ref a_this), (1, .int p0), (2, .int t_1), (3, .int s_2.1), (6, .int t_5)]) h 5 dX12_reads_198 rfl kc1 (by decide) (fun _ => rfl) (fun x_37 h => ?_)
                    refine ii_goto (tgt := 435) dX12_reads_201 (by decide) ?_
                    refine ii_goto (tgt := 25) dX12_reads_435 (by decide) ?_
                    refine ii_lv [2, 3, 4, 5, 1, 0] rfl ?_
                    cases h
                    exact hb_2 (s_2.1, (0 : Int32), x_37, c_35.2.1, c_35.2.2.1, c_35.2.2.2.1, g_36, c_35.2.2.2.2) rfl
            · skip
              refine ii_aload_n 0 dX12_reads_111 rfl ?_
              refine ii_iconst dX12_reads_112 kc1 ?_
              obtain ⟨c_38, hc_38, h⟩ := bnd h
              refine ii_callVv (As := [.int (1 : Int32)]) (ws' := [(a_this, .inr (12, [.ref a_this_st, .ref a_this_images, .ref a_this_isKept, .long v_this_above, .long v_this_below, .int c_38.2.1, .ref a_this_step, .ref a_this_with, .int c_38.2.2.1, .ref a_this_waits, .ref a_this_value, .ref a_this_given, .ref a_this_net, .ref a_this_together, .ref a_this_most, .ref a_this_owes, .ref a_this_can, .ref a_this_row, .ref a_this_before, .ref a_this_to, .ref a_this_on, .ref a_this_load, .ref a_this_lead, .ref a_this_bestLead, .ref a_this_silver])), (a_this_st, .inl (cI, 1951, .inl v_this_st)), (a_this_step, .inl (cI, 70, .inl c_38.1)), (a_this_waits, .inl (cI, 70, .inl s_2.2.2.2.2.2.2.1)), (a_this_with, .inl (cI, 70, .inl c_38.2.2.2))]) (st := []) (c_X12_settles l D cI cJ cZ cH a_this a_this_before a_this_bestLead a_this_can a_this_given a_this_images a_this_isKept a_this_lead a_this_load a_this_most a_this_net a_this_on a_this_owes a_this_row a_this_silver a_this_st a_this_step a_this_to a_this_together a_this_value a_this_waits a_this_with v_this_above v_this_below v_29.1 v_29.2.1 v_29.2.2.1 s_2.2.2.2.2.2.2.1 v_29.2.2.2 (1 : Int32) hc_38) gzX12_108 rfl rfl rfl eV_X12_settles ⟨Nat.le_of_ble_eq_true rfl, Nat.le_of_ble_eq_true rfl⟩ rfl 0 rfl rfl [0, 2, 3, 4] rfl rfl rfl rfl rfl (Nat.le_of_ble_eq_true rfl) (Nat.le_refl _) (Nat.le_refl _) rfl dX12_reads_113 ?_
              refine ii_aload_n 0 dX12_reads_116 rfl ?_
              refine ii_bipush dX12_reads_117 kb14 ?_
              obtain ⟨c_39, hc_39, h⟩ := bnd h
              refine ii_callVv (As := [.int (14 : Int32)]) (ws' := [(a_this, .inr (12, [.ref a_this_st, .ref a_this_images, .ref a_this_isKept, .long v_this_above, .long v_this_below, .int c_38.2.1, .ref a_this_step, .ref a_this_with, .int c_39.1, .ref a_this_waits, .ref a_this_value, .ref a_this_given, .ref a_this_net, .ref a_this_together, .ref a_this_most, .ref a_this_owes, .ref a_this_can, .ref a_this_row, .ref a_this_before, .ref a_this_to, .ref a_this_on, .ref a_this_load, .ref a_this_lead, .ref a_this_bestLead, .ref a_this_silver])), (a_this_st, .inl (cI, 1951, .inl v_this_st)), (a_this_step, .inl (cI, 70, .inl c_38.1)), (a_this_waits, .inl (cI, 70, .inl c_39.2)), (a_this_with, .inl (cI, 70, .inl c_38.2.2.2))]) (st := []) (c_X12_waitsWith l D cI cJ cZ cH a_this a_this_before a_this_bestLead a_this_can a_this_given a_this_images a_this_isKept a_this_lead a_this_load a_this_most a_this_net a_this_on a_this_owes a_this_row a_this_silver a_this_st a_this_step a_this_to a_this_together a_this_value a_this_waits a_this_with v_this_above v_this_below c_38.2.1 c_38.2.2.1 s_2.2.2.2.2.2.2.1 (14 : Int32) hc_39) gzX12_112 rfl rfl rfl eV_X12_waitsWith ⟨Nat.le_of_ble_eq_true rfl, Nat.le_of_ble_eq_true rfl⟩ rfl 0 rfl rfl [0, 3] rfl rfl rfl rfl rfl (Nat.le_of_ble_eq_true rfl) (Nat.le_refl _) (Nat.le_refl _) rfl dX12_reads_119 ?_
              refine ii_iconst dX12_reads_122 kc0 ?_
              refine ii_istore (lv' := [(4, .int (0 : Int32)), (0, .ref a_this), (1, .int p0), (2, .int t_1), (3, .int s_2.1), (5, .int s_2.2.2.1), (6, .int t_5)]) dX12_reads_123 (by decide) rfl ?_
              refine ii_goto (tgt := 198) dX12_reads_125 (by decide) ?_
              refine ii_iinc (fun x_40 => [(5, .int x_40), (4, .int (0 : Int32)), (0, .ref a_this), (1, .int p0), (2, .int t_1), (3, .int s_2.1), (6, .int t_5)]) h 5 dX12_reads_198 rfl kc1 (by decide) (fun _ => rfl) (fun x_40 h => ?_)
              refine ii_goto (tgt := 435) dX12_reads_201 (by decide) ?_
              refine ii_goto (tgt := 25) dX12_reads_435 (by decide) ?_
              refine ii_lv [2, 3, 4, 5, 1, 0] rfl ?_
              cases h
              exact hb_2 (s_2.1, (0 : Int32), x_40, c_38.1, c_38.2.1, c_39.1, c_39.2, c_38.2.2.2) rfl
          · skip
            refine ii_icmp_ne (tgt := 104) h dX12_reads_66 (by decide) (fun h => ?_) (fun h => ?_)
            · skip
              refine ii_lv [1, 2, 3, 4, 6, 0] rfl ?_
              exact hjv_29 (s_2.2.2.2.1, s_2.2.2.2.2.1, s_2.2.2.2.2.2.1, s_2.2.2.2.2.2.2.2) h
            · skip
              refine ii_iload_n 4 dX12_reads_69 rfl ?_
              refine ii_if_le (tgt := 104) h dX12_reads_70 (by decide) (fun h => ?_) (fun h => ?_)
              · skip
                refine ii_lv [1, 2, 3, 4, 6, 0] rfl ?_
                exact hjv_29 (s_2.2.2.2.1, s_2.2.2.2.2.1, s_2.2.2.2.2.2.1, s_2.2.2.2.2.2.2.2) h
              · skip
                refine ii_aload_n 1 dX12_reads_73 rfl ?_
                obtain ⟨c_41, hc_41, h⟩ := bnd h
                refine ii_callVi (As := []) (ws' := [(a_this, .inr (12, [.ref a_this_st, .ref a_this_images, .ref a_this_isKept, .long v_this_above, .long v_this_below, .int c_41.2.2.1, .ref a_this_step, .ref a_this_with, .int c_41.2.2.2.1, .ref a_this_waits, .ref a_this_value, .ref a_this_given, .ref a_this_net, .ref a_this_together, .ref a_this_most, .ref a_this_owes, .ref a_this_can, .ref a_this_row, .ref a_this_before, .ref a_this_to, .ref a_this_on, .ref a_this_load, .ref a_this_lead, .ref a_this_bestLead, .ref a_this_silver])), (a_this_st, .inl (cI, 1951, .inl v_this_st)), (a_this_step, .inl (cI, 70, .inl c_41.2.1)), (a_this_waits, .inl (cI, 70, .inl s_2.2.2.2.2.2.2.1)), (a_this_with, .inl (cI, 70, .inl c_41.2.2.2.2))]) (st := []) (c_X12_closes l D cI cJ cZ cH a_this a_this_before a_this_bestLead a_this_can a_this_given a_this_images a_this_isKept a_this_lead a_this_load a_this_most a_this_net a_this_on a_this_owes a_this_row a_this_silver a_this_st a_this_step a_this_to a_this_together a_this_value a_this_waits a_this_with v_this_above v_this_below s_2.2.2.2.1 s_2.2.2.2.2.1 s_2.2.2.2.2.2.1 s_2.2.2.2.2.2.2.1 s_2.2.2.2.2.2.2.2 hc_41) gzX12_115 rfl rfl rfl eV_X12_closes ⟨Nat.le_of_ble_eq_true rfl, Nat.le_of_ble_eq_true rfl⟩ rfl 0 rfl rfl [0, 2, 3, 4] rfl rfl rfl rfl rfl (Nat.le_of_ble_eq_true rfl) (Nat.le_refl _) (Nat.le_refl _) rfl dX12_reads_74 ?_
                refine ii_bipush dX12_reads_77 kb13 ?_
                refine ii_icmp_ne (tgt := 104) h dX12_reads_79 (by decide) (fun h => ?_) (fun h => ?_)
                · skip
                  refine ii_lv [1, 2, 3, 4, 6, 0] rfl ?_
                  exact hjv_29 (c_41.2.1, c_41.2.2.1, c_41.2.2.2.1, c_41.2.2.2.2) h
                · skip
                  refine ii_aload_n 1 dX12_reads_82 rfl ?_
                  refine ii_dup dX12_reads_83 rfl ?_
                  refine ii_get (C := RX12) (T := TX12) (N := 25) (ci := 12) izX12 0 rfl rfl 8 (by decide) kX12_98 rfl dX12_reads_84 ?_
                  refine ii_iconst dX12_reads_87 kc1 ?_
                  refine ii_isub dX12_reads_88 ?_
                  refine ii_topI h (fun x_42 h => ?_)
                  refine ii_put (C := RX12) (T := TX12) (N := 25) (ci := 12) (ty0 := tyX12) (ws' := [(a_this, .inr (12, [.ref a_this_st, .ref a_this_images, .ref a_this_isKept, .long v_this_above, .long v_this_below, .int c_41.2.2.1, .ref a_this_step, .ref a_this_with, .int x_42, .ref a_this_waits, .ref a_this_value, .ref a_this_given, .ref a_this_net, .ref a_this_together, .ref a_this_most, .ref a_this_owes, .ref a_this_can, .ref a_this_row, .ref a_this_before, .ref a_this_to, .ref a_this_on, .ref a_this_load, .ref a_this_lead, .ref a_this_bestLead, .ref a_this_silver])), (a_this_st, .inl (cI, 1951, .inl v_this_st)), (a_this_step, .inl (cI, 70, .inl c_41.2.1)), (a_this_waits, .inl (cI, 70, .inl s_2.2.2.2.2.2.2.1)), (a_this_with, .inl (cI, 70, .inl c_41.2.2.2.2))]) izX12 tyX12_ok nmX12 0 rfl rfl 8 (by decide) kX12_98 rfl rfl rfl (Nat.le_of_ble_eq_true rfl) dX12_reads_89 rfl ?_
                  refine ii_iinc (fun x_43 => [(3, .int x_43), (6, .int t_5), (0, .ref a_this), (1, .int p0), (2, .int t_1), (4, .int s_2.2.1), (5, .int s_2.2.2.1)]) h 4 dX12_reads_92 rfl kcm1 (by decide) (fun _ => rfl) (fun x_43 h => ?_)
                  refine ii_aload_n 2 dX12_reads_95 rfl ?_
                  refine ii_bipush dX12_reads_96 kb6 ?_
                  obtain ⟨c_44, hc_44, h⟩ := bnd h
                  refine ii_callVv (As := [.int (6 : Int32)]) (ws' := [(a_this, .inr (12, [.ref a_this_st, .ref a_this_images, .ref a_this_isKept, .long v_this_above, .long v_this_below, .int c_44.2.1, .ref a_this_step, .ref a_this_with, .int c_44.2.2.1, .ref a_this_waits, .ref a_this_value, .ref a_this_given, .ref a_this_net, .ref a_this_together, .ref a_this_most, .ref a_this_owes, .ref a_this_can, .ref a_this_row, .ref a_this_before, .ref a_this_to, .ref a_this_on, .ref a_this_load, .ref a_this_lead, .ref a_this_bestLead, .ref a_this_silver])), (a_this_st, .inl (cI, 1951, .inl v_this_st)), (a_this_step, .inl (cI, 70, .inl c_44.1)), (a_this_waits, .inl (cI, 70, .inl s_2.2.2.2.2.2.2.1)), (a_this_with, .inl (cI, 70, .inl c_44.2.2.2))]) (st := []) (c_X12_settles l D cI cJ cZ cH a_this a_this_before a_this_bestLead a_this_can a_this_given a_this_images a_this_isKept a_this_lead a_this_load a_this_most a_this_net a_this_on a_this_owes a_this_row a_this_silver a_this_st a_this_step a_this_to a_this_together a_this_value a_this_waits a_this_with v_this_above v_this_below c_41.2.1 c_41.2.2.1 x_42 s_2.2.2.2.2.2.2.1 c_41.2.2.2.2 (6 : Int32) hc_44) gzX12_108 rfl rfl rfl eV_X12_settles ⟨Nat.le_of_ble_eq_true rfl, Nat.le_of_ble_eq_true rfl⟩ rfl 0 rfl rfl [0, 2, 3, 4] rfl rfl rfl rfl rfl (Nat.le_of_ble_eq_true rfl) (Nat.le_refl _) (Nat.le_refl _) rfl dX12_reads_98 ?_
                  refine ii_goto (tgt := 198) dX12_reads_101 (by decide) ?_
                  refine ii_iinc (fun x_45 => [(5, .int x_45), (3, .int x_43), (6, .int t_5), (0, .ref a_this), (1, .int p0), (2, .int t_1), (4, .int s_2.2.1)]) h 6 dX12_reads_198 rfl kc1 (by decide) (fun _ => rfl) (fun x_45 h => ?_)
                  refine ii_goto (tgt := 435) dX12_reads_201 (by decide) ?_
                  refine ii_goto (tgt := 25) dX12_reads_435 (by decide) ?_
                  refine ii_lv [3, 4, 5, 1, 6, 0] rfl ?_
                  cases h
                  exact hb_2 (x_43, s_2.2.1, x_45, c_44.1, c_44.2.1, c_44.2.2.1, s_2.2.2.2.2.2.2.1, c_44.2.2.2) rfl
      · skip
        refine ii_iinc (fun x_46 => [(5, .int x_46), (6, .int t_5), (0, .ref a_this), (1, .int p0), (2, .int t_1), (3, .int s_2.1), (4, .int s_2.2.1)]) h 6 dX12_reads_51 rfl kc1 (by decide) (fun _ => rfl) (fun x_46 h => ?_)
        refine ii_goto (tgt := 435) dX12_reads_54 (by decide) ?_
        refine ii_goto (tgt := 25) dX12_reads_435 (by decide) ?_
        refine ii_lv [2, 3, 4, 5, 6, 0] rfl ?_
        cases h
        exact hb_2 (s_2.1, s_2.2.1, x_46, s_2.2.2.2.1, s_2.2.2.2.2.1, s_2.2.2.2.2.2.1, s_2.2.2.2.2.2.2.1, s_2.2.2.2.2.2.2.2) rfl
