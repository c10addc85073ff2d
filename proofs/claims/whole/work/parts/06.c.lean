set_option maxHeartbeats 4000000 in
set_option maxRecDepth 100000 in
theorem c_X1_inscribe (l : Launch) (D : va_G) (cI cJ cZ cH : ClassId) (a_p2 a_p2_codes a_p2_waiting a_this a_this_house a_this_house_acts a_this_house_acts_cells a_this_house_debts a_this_house_gates a_this_house_letters a_this_house_loads a_this_house_mentions a_this_house_merchants a_this_house_payments a_this_house_prices a_this_house_purses a_this_house_stones a_this_house_texts a_this_house_texts_cells a_this_house_told a_this_stack : Nat) (v_p2_codes : Nat → Int32) (v_p2_count : Int32) (v_p2_digits : Int32) (v_p2_fault : Int32) (v_p2_firstDigit : Int32) (v_p2_number : Int32) (v_p2_open : Int32) (v_p2_unitIsDue : Int32) (v_p2_waits : Int32) (v_this_about : Int64) (v_this_gate : Int32) (v_this_height : Int32) (v_this_house_acts_cells : Nat → Int32) (v_this_house_acts_rows : Int32) (v_this_house_names : Int32) (v_this_house_narrow : Int32) (v_this_house_texts_cells : Nat → Int32) (v_this_house_texts_rows : Int32) (v_this_kin : Int32) (v_this_season : Int32) (v_this_town : Int32) (p0 : Int32) (p1 : Int32) {res : (Nat → Int32)} (h : F_X1_inscribe v_p2_codes v_p2_count v_this_house_acts_cells v_this_house_acts_rows v_this_house_texts_cells v_this_house_texts_rows p0 p1 = some res) : CTv l yX1_inscribe wzX1_inscribe { frames := 2, cells := 0, slots := 0, locals := 47 } D [(cI, .int), (cJ, .long), (cZ, .boolean), (cH, .object "TinHouse$House")] [.ref a_this, .int p0, .int p1, .ref a_p2] [(a_p2, .inr (7, [.ref a_p2_codes, .int v_p2_count, .ref a_p2_waiting, .int v_p2_waits, .int v_p2_open, .int v_p2_unitIsDue, .int v_p2_digits, .int v_p2_firstDigit, .int v_p2_number, .int v_p2_fault])), (a_p2_codes, .inl (cI, 50, .inl v_p2_codes)), (a_this, .inr (1, [.ref a_this_house, .ref a_this_stack, .int v_this_height, .int v_this_gate, .int v_this_kin, .int v_this_town, .int v_this_season, .long v_this_about])), (a_this_house, .inr (0, [.ref a_this_house_merchants, .ref a_this_house_texts, .ref a_this_house_acts, .ref a_this_house_debts, .ref a_this_house_payments, .ref a_this_house_purses, .ref a_this_house_gates, .ref a_this_house_stones, .ref a_this_house_told, .ref a_this_house_letters, .ref a_this_house_mentions, .ref a_this_house_loads, .ref a_this_house_prices, .int v_this_house_narrow, .int v_this_house_names])), (a_this_house_acts, .inr (8, [.int (104 : Int32), .int (16 : Int32), .ref a_this_house_acts_cells, .int v_this_house_acts_rows])), (a_this_house_acts_cells, .inl (cI, 1664, .inl v_this_house_acts_cells)), (a_this_house_texts, .inr (8, [.int (51 : Int32), .int (4 : Int32), .ref a_this_house_texts_cells, .int v_this_house_texts_rows])), (a_this_house_texts_cells, .inl (cI, 204, .inl v_this_house_texts_cells))] [(a_p2, .inr (7, [.ref a_p2_codes, .int v_p2_count, .ref a_p2_waiting, .int v_p2_waits, .int v_p2_open, .int v_p2_unitIsDue, .int v_p2_digits, .int v_p2_firstDigit, .int v_p2_number, .int v_p2_fault])), (a_p2_codes, .inl (cI, 50, .inl v_p2_codes)), (a_this, .inr (1, [.ref a_this_house, .ref a_this_stack, .int v_this_height, .int v_this_gate, .int v_this_kin, .int v_this_town, .int v_this_season, .long v_this_about])), (a_this_house, .inr (0, [.ref a_this_house_merchants, .ref a_this_house_texts, .ref a_this_house_acts, .ref a_this_house_debts, .ref a_this_house_payments, .ref a_this_house_purses, .ref a_this_house_gates, .ref a_this_house_stones, .ref a_this_house_told, .ref a_this_house_letters, .ref a_this_house_mentions, .ref a_this_house_loads, .ref a_this_house_prices, .int v_this_house_narrow, .int v_this_house_names])), (a_this_house_acts, .inr (8, [.int (104 : Int32), .int (16 : Int32), .ref a_this_house_acts_cells, .int v_this_house_acts_rows])), (a_this_house_acts_cells, .inl (cI, 1664, .inl res)), (a_this_house_texts, .inr (8, [.int (51 : Int32), .int (4 : Int32), .ref a_this_house_texts_cells, .int v_this_house_texts_rows])), (a_this_house_texts_cells, .inl (cI, 204, .inl v_this_house_texts_cells))] := by
  unfold F_X1_inscribe at h
  refine ii_metV (own := RX1) (lv0 := [(0, .ref a_this), (1, .int p0), (2, .int p1), (3, .ref a_p2)]) (by decide) rfl rfl rfl (Nat.le_of_ble_eq_true rfl) (fun {p e s m args below meth c A Q} hQ => ?_)
  refine ii_aload_n 0 dX1_inscribe_0 rfl ?_
  refine ii_get (C := RX1) (T := TX1) (N := 8) (ci := 1) izX1 2 rfl rfl 0 (by decide) kX1_15 rfl dX1_inscribe_1 ?_
  refine ii_get (C := RX0) (T := TX0) (N := 15) (ci := 0) izX0 3 rfl rfl 1 (by decide) kX1_19 rfl dX1_inscribe_4 ?_
  refine ii_iload_n 2 dX1_inscribe_7 rfl ?_
  refine ii_iconst dX1_inscribe_8 kc0 ?_
  obtain ⟨c_1, hc_1, h⟩ := bnd h
  refine ii_callVi (As := [.int p1, .int (0 : Int32)]) (ws' := [(a_p2, .inr (7, [.ref a_p2_codes, .int v_p2_count, .ref a_p2_waiting, .int v_p2_waits, .int v_p2_open, .int v_p2_unitIsDue, .int v_p2_digits, .int v_p2_firstDigit, .int v_p2_number, .int v_p2_fault])), (a_p2_codes, .inl (cI, 50, .inl v_p2_codes)), (a_this, .inr (1, [.ref a_this_house, .ref a_this_stack, .int v_this_height, .int v_this_gate, .int v_this_kin, .int v_this_town, .int v_this_season, .long v_this_about])), (a_this_house, .inr (0, [.ref a_this_house_merchants, .ref a_this_house_texts, .ref a_this_house_acts, .ref a_this_house_debts, .ref a_this_house_payments, .ref a_this_house_purses, .ref a_this_house_gates, .ref a_this_house_stones, .ref a_this_house_told, .ref a_this_house_letters, .ref a_this_house_mentions, .ref a_this_house_loads, .ref a_this_house_prices, .int v_this_house_narrow, .int v_this_house_names])), (a_this_house_acts, .inr (8, [.int (104 : Int32), .int (16 : Int32), .ref a_this_house_acts_cells, .int v_this_house_acts_rows])), (a_this_house_acts_cells, .inl (cI, 1664, .inl v_this_house_acts_cells)), (a_this_house_texts, .inr (8, [.int (51 : Int32), .int (4 : Int32), .ref a_this_house_texts_cells, .int v_this_house_texts_rows])), (a_this_house_texts_cells, .inl (cI, 204, .inl v_this_house_texts_cells))]) (st := []) (c_X8_get l D cI cJ cZ cH a_this_house_texts a_this_house_texts_cells 204 v_this_house_texts_cells (4 : Int32) v_this_house_texts_rows (51 : Int32) p1 (0 : Int32) hc_1) gzX1_25 rfl rfl rfl eV_X8_get ⟨Nat.le_of_ble_eq_true rfl, Nat.le_of_ble_eq_true rfl⟩ rfl 6 rfl rfl [6, 7] rfl rfl rfl rfl rfl (Nat.le_of_ble_eq_true rfl) (Nat.le_refl _) (Nat.le_refl _) rfl dX1_inscribe_9 ?_
  refine ii_istore (lv' := [(4, .int c_1), (0, .ref a_this), (1, .int p0), (2, .int p1), (3, .ref a_p2)]) dX1_inscribe_12 (by decide) rfl ?_
  refine ii_aload_n 1 dX1_inscribe_14 rfl ?_
  refine ii_get (C := RX1) (T := TX1) (N := 8) (ci := 1) izX1 2 rfl rfl 0 (by decide) kX1_15 rfl dX1_inscribe_15 ?_
  refine ii_get (C := RX0) (T := TX0) (N := 15) (ci := 0) izX0 3 rfl rfl 2 (by decide) kX1_31 rfl dX1_inscribe_18 ?_
  refine ii_iload_n 2 dX1_inscribe_21 rfl ?_
  refine ii_iconst dX1_inscribe_22 kc2 ?_
  refine ii_iload 0 dX1_inscribe_23 rfl ?_
  obtain ⟨c_2, hc_2, h⟩ := bnd h
  refine ii_callVv (As := [.int p0, .int (2 : Int32), .int c_1]) (ws' := [(a_p2, .inr (7, [.ref a_p2_codes, .int v_p2_count, .ref a_p2_waiting, .int v_p2_waits, .int v_p2_open, .int v_p2_unitIsDue, .int v_p2_digits, .int v_p2_firstDigit, .int v_p2_number, .int v_p2_fault])), (a_p2_codes, .inl (cI, 50, .inl v_p2_codes)), (a_this, .inr (1, [.ref a_this_house, .ref a_this_stack, .int v_this_height, .int v_this_gate, .int v_this_kin, .int v_this_town, .int v_this_season, .long v_this_about])), (a_this_house, .inr (0, [.ref a_this_house_merchants, .ref a_this_house_texts, .ref a_this_house_acts, .ref a_this_house_debts, .ref a_this_house_payments, .ref a_this_house_purses, .ref a_this_house_gates, .ref a_this_house_stones, .ref a_this_house_told, .ref a_this_house_letters, .ref a_this_house_mentions, .ref a_this_house_loads, .ref a_this_house_prices, .int v_this_house_narrow, .int v_this_house_names])), (a_this_house_acts, .inr (8, [.int (104 : Int32), .int (16 : Int32), .ref a_this_house_acts_cells, .int v_this_house_acts_rows])), (a_this_house_acts_cells, .inl (cI, 1664, .inl c_2)), (a_this_house_texts, .inr (8, [.int (51 : Int32), .int (4 : Int32), .ref a_this_house_texts_cells, .int v_this_house_texts_rows])), (a_this_house_texts_cells, .inl (cI, 204, .inl v_this_house_texts_cells))]) (st := []) (c_X8_set l D cI cJ cZ cH a_this_house_acts a_this_house_acts_cells 1664 v_this_house_acts_cells (16 : Int32) v_this_house_acts_rows (104 : Int32) p0 (2 : Int32) c_1 hc_2) gzX1_34 rfl rfl rfl eV_X8_set ⟨Nat.le_of_ble_eq_true rfl, Nat.le_of_ble_eq_true rfl⟩ rfl 4 rfl rfl [4, 5] rfl rfl rfl rfl rfl (Nat.le_of_ble_eq_true rfl) (Nat.le_refl _) (Nat.le_refl _) rfl dX1_inscribe_25 ?_
  refine ii_iconst dX1_inscribe_28 kc1 ?_
  refine ii_istore (lv' := [(5, .int (1 : Int32)), (4, .int c_1), (0, .ref a_this), (1, .int p0), (2, .int p1), (3, .ref a_p2)]) dX1_inscribe_29 (by decide) rfl ?_
  refine ii_lv [2, 3, 4, 5, 1, 0] rfl ?_
  obtain ⟨x_4, hl_3, h⟩ := bnd h
  refine ii_loopX (fun s_3 => [(a_p2, .inr (7, [.ref a_p2_codes, .int v_p2_count, .ref a_p2_waiting, .int v_p2_waits, .int v_p2_open, .int v_p2_unitIsDue, .int v_p2_digits, .int v_p2_firstDigit, .int v_p2_number, .int v_p2_fault])), (a_p2_codes, .inl (cI, 50, .inl v_p2_codes)), (a_this, .inr (1, [.ref a_this_house, .ref a_this_stack, .int v_this_height, .int v_this_gate, .int v_this_kin, .int v_this_town, .int v_this_season, .long v_this_about])), (a_this_house, .inr (0, [.ref a_this_house_merchants, .ref a_this_house_texts, .ref a_this_house_acts, .ref a_this_house_debts, .ref a_this_house_payments, .ref a_this_house_purses, .ref a_this_house_gates, .ref a_this_house_stones, .ref a_this_house_told, .ref a_this_house_letters, .ref a_this_house_mentions, .ref a_this_house_loads, .ref a_this_house_prices, .int v_this_house_narrow, .int v_this_house_names])), (a_this_house_acts, .inr (8, [.int (104 : Int32), .int (16 : Int32), .ref a_this_house_acts_cells, .int v_this_house_acts_rows])), (a_this_house_acts_cells, .inl (cI, 1664, .inl s_3.2)), (a_this_house_texts, .inr (8, [.int (51 : Int32), .int (4 : Int32), .ref a_this_house_texts_cells, .int v_this_house_texts_rows])), (a_this_house_texts_cells, .inl (cI, 204, .inl v_this_house_texts_cells))]) (fun s_3 => [(0, .ref a_this), (1, .int p0), (2, .int p1), (3, .ref a_p2), (4, .int c_1), (5, .int s_3.1)]) (fun x_4 => [(a_p2, .inr (7, [.ref a_p2_codes, .int v_p2_count, .ref a_p2_waiting, .int v_p2_waits, .int v_p2_open, .int v_p2_unitIsDue, .int v_p2_digits, .int v_p2_firstDigit, .int v_p2_number, .int v_p2_fault])), (a_p2_codes, .inl (cI, 50, .inl v_p2_codes)), (a_this, .inr (1, [.ref a_this_house, .ref a_this_stack, .int v_this_height, .int v_this_gate, .int v_this_kin, .int v_this_town, .int v_this_season, .long v_this_about])), (a_this_house, .inr (0, [.ref a_this_house_merchants, .ref a_this_house_texts, .ref a_this_house_acts, .ref a_this_house_debts, .ref a_this_house_payments, .ref a_this_house_purses, .ref a_this_house_gates, .ref a_this_house_stones, .ref a_this_house_told, .ref a_this_house_letters, .ref a_this_house_mentions, .ref a_this_house_loads, .ref a_this_house_prices, .int v_this_house_narrow, .int v_this_house_names])), (a_this_house_acts, .inr (8, [.int (104 : Int32), .int (16 : Int32), .ref a_this_house_acts_cells, .int v_this_house_acts_rows])), (a_this_house_acts_cells, .inl (cI, 1664, .inl x_4.2)), (a_this_house_texts, .inr (8, [.int (51 : Int32), .int (4 : Int32), .ref a_this_house_texts_cells, .int v_this_house_texts_rows])), (a_this_house_texts_cells, .inl (cI, 204, .inl v_this_house_texts_cells))]) (fun x_4 => [(0, .ref a_this), (1, .int p0), (3, .ref a_p2)]) 72 hl_3 rfl rfl ?_ (fun s_3 o h hb_3 hr_3 hx_3 => ?_)
  · skip
    refine ii_aload_n 0 dX1_inscribe_72 rfl ?_
    refine ii_get (C := RX1) (T := TX1) (N := 8) (ci := 1) izX1 2 rfl rfl 0 (by decide) kX1_15 rfl dX1_inscribe_73 ?_
    refine ii_get (C := RX0) (T := TX0) (N := 15) (ci := 0) izX0 3 rfl rfl 2 (by decide) kX1_31 rfl dX1_inscribe_76 ?_
    refine ii_iload_n 1 dX1_inscribe_79 rfl ?_
    refine ii_bipush dX1_inscribe_80 kb53 ?_
    refine ii_aload_n 2 dX1_inscribe_82 rfl ?_
    refine ii_get (C := RX7) (T := TX7) (N := 10) (ci := 7) izX7 0 rfl rfl 1 (by decide) kX1_38 rfl dX1_inscribe_83 ?_
    obtain ⟨c_8, hc_8, h⟩ := bnd h
    refine ii_callVv (As := [.int p0, .int (53 : Int32), .int v_p2_count]) (ws' := [(a_p2, .inr (7, [.ref a_p2_codes, .int v_p2_count, .ref a_p2_waiting, .int v_p2_waits, .int v_p2_open, .int v_p2_unitIsDue, .int v_p2_digits, .int v_p2_firstDigit, .int v_p2_number, .int v_p2_fault])), (a_p2_codes, .inl (cI, 50, .inl v_p2_codes)), (a_this, .inr (1, [.ref a_this_house, .ref a_this_stack, .int v_this_height, .int v_this_gate, .int v_this_kin, .int v_this_town, .int v_this_season, .long v_this_about])), (a_this_house, .inr (0, [.ref a_this_house_merchants, .ref a_this_house_texts, .ref a_this_house_acts, .ref a_this_house_debts, .ref a_this_house_payments, .ref a_this_house_purses, .ref a_this_house_gates, .ref a_this_house_stones, .ref a_this_house_told, .ref a_this_house_letters, .ref a_this_house_mentions, .ref a_this_house_loads, .ref a_this_house_prices, .int v_this_house_narrow, .int v_this_house_names])), (a_this_house_acts, .inr (8, [.int (104 : Int32), .int (16 : Int32), .ref a_this_house_acts_cells, .int v_this_house_acts_rows])), (a_this_house_acts_cells, .inl (cI, 1664, .inl c_8)), (a_this_house_texts, .inr (8, [.int (51 : Int32), .int (4 : Int32), .ref a_this_house_texts_cells, .int v_this_house_texts_rows])), (a_this_house_texts_cells, .inl (cI, 204, .inl v_this_house_texts_cells))]) (st := []) (c_X8_set l D cI cJ cZ cH a_this_house_acts a_this_house_acts_cells 1664 x_4.2 (16 : Int32) v_this_house_acts_rows (104 : Int32) p0 (53 : Int32) v_p2_count hc_8) gzX1_34 rfl rfl rfl eV_X8_set ⟨Nat.le_of_ble_eq_true rfl, Nat.le_of_ble_eq_true rfl⟩ rfl 4 rfl rfl [4, 5] rfl rfl rfl rfl rfl (Nat.le_of_ble_eq_true rfl) (Nat.le_refl _) (Nat.le_refl _) rfl dX1_inscribe_86 ?_
    refine ii_iconst dX1_inscribe_89 kc0 ?_
    refine ii_istore (lv' := [(5, .int (0 : Int32)), (0, .ref a_this), (1, .int p0), (3, .ref a_p2)]) dX1_inscribe_90 (by decide) rfl ?_
    refine ii_lv [1, 2, 3, 0] rfl ?_
    obtain ⟨x_10, hl_9, h⟩ := bnd h
    refine ii_loopX (fun s_9 => [(a_p2, .inr (7, [.ref a_p2_codes, .int v_p2_count, .ref a_p2_waiting, .int v_p2_waits, .int v_p2_open, .int v_p2_unitIsDue, .int v_p2_digits, .int v_p2_firstDigit, .int v_p2_number, .int v_p2_fault])), (a_p2_codes, .inl (cI, 50, .inl v_p2_codes)), (a_this, .inr (1, [.ref a_this_house, .ref a_this_stack, .int v_this_height, .int v_this_gate, .int v_this_kin, .int v_this_town, .int v_this_season, .long v_this_about])), (a_this_house, .inr (0, [.ref a_this_house_merchants, .ref a_this_house_texts, .ref a_this_house_acts, .ref a_this_house_debts, .ref a_this_house_payments, .ref a_this_house_purses, .ref a_this_house_gates, .ref a_this_house_stones, .ref a_this_house_told, .ref a_this_house_letters, .ref a_this_house_mentions, .ref a_this_house_loads, .ref a_this_house_prices, .int v_this_house_narrow, .int v_this_house_names])), (a_this_house_acts, .inr (8, [.int (104 : Int32), .int (16 : Int32), .ref a_this_house_acts_cells, .int v_this_house_acts_rows])), (a_this_house_acts_cells, .inl (cI, 1664, .inl s_9.2)), (a_this_house_texts, .inr (8, [.int (51 : Int32), .int (4 : Int32), .ref a_this_house_texts_cells, .int v_this_house_texts_rows])), (a_this_house_texts_cells, .inl (cI, 204, .inl v_this_house_texts_cells))]) (fun s_9 => [(0, .ref a_this), (1, .int p0), (3, .ref a_p2), (5, .int s_9.1)]) (fun x_10 => [(a_p2, .inr (7, [.ref a_p2_codes, .int v_p2_count, .ref a_p2_waiting, .int v_p2_waits, .int v_p2_open, .int v_p2_unitIsDue, .int v_p2_digits, .int v_p2_firstDigit, .int v_p2_number, .int v_p2_fault])), (a_p2_codes, .inl (cI, 50, .inl v_p2_codes)), (a_this, .inr (1, [.ref a_this_house, .ref a_this_stack, .int v_this_height, .int v_this_gate, .int v_this_kin, .int v_this_town, .int v_this_season, .long v_this_about])), (a_this_house, .inr (0, [.ref a_this_house_merchants, .ref a_this_house_texts, .ref a_this_house_acts, .ref a_this_house_debts, .ref a_this_house_payments, .ref a_this_house_purses, .ref a_this_house_gates, .ref a_this_house_stones, .ref a_this_house_told, .ref a_this_house_letters, .ref a_this_house_mentions, .ref a_this_house_loads, .ref a_this_house_prices, .int v_this_house_narrow, .int v_this_house_names])), (a_this_house_acts, .inr (8, [.int (104 : Int32), .int (16 : Int32), .ref a_this_house_acts_cells, .int v_this_house_acts_rows])), (a_this_house_acts_cells, .inl (cI, 1664, .inl x_10.2)), (a_this_house_texts, .inr (8, [.int (51 : Int32), .int (4 : Int32), .ref a_this_house_texts_cells, .int v_this_house_texts_rows])), (a_this_house_texts_cells, .inl (cI, 204, .inl v_this_house_texts_cells))]) (fun x_10 => []) 140 hl_9 rfl rfl ?_ (fun s_9 o h hb_9 hr_9 hx_9 => ?_)
    · skip
      cases h
      exact hQ _ _ dX1_inscribe_140
    · skip
      refine ii_iload 3 dX1_inscribe_92 rfl ?_
      refine ii_aload_n 2 dX1_inscribe_94 rfl ?_
      refine ii_get (C := RX7) (T := TX7) (N := 10) (ci := 7) izX7 0 rfl rfl 1 (by decide) kX1_38 rfl dX1_inscribe_95 ?_
      refine ii_icmp_ge (tgt := 140) h dX1_inscribe_98 (by decide) (fun h => ?_) (fun h => ?_)
      · skip
        refine ii_lv [] rfl ?_
        cases h
        exact hx_9 (s_9.1, s_9.2) (hr_9 _ rfl)
      · skip
        refine ii_iload 3 dX1_inscribe_101 rfl ?_
        refine ii_aload_n 2 dX1_inscribe_103 rfl ?_
        refine ii_get (C := RX7) (T := TX7) (N := 10) (ci := 7) izX7 0 rfl rfl 0 (by decide) kX1_44 rfl dX1_inscribe_104 ?_
        refine ii_alen (v := (50 : Int32)) 1 0 rfl rfl rfl dX1_inscribe_107 ?_
        refine ii_icmp_ge (tgt := 140) h dX1_inscribe_108 (by decide) (fun h => ?_) (fun h => ?_)
        · skip
          refine ii_lv [] rfl ?_
          cases h
          exact hx_9 (s_9.1, s_9.2) (hr_9 _ rfl)
        · skip
          refine ii_aload_n 0 dX1_inscribe_111 rfl ?_
          refine ii_get (C := RX1) (T := TX1) (N := 8) (ci := 1) izX1 2 rfl rfl 0 (by decide) kX1_15 rfl dX1_inscribe_112 ?_
          refine ii_get (C := RX0) (T := TX0) (N := 15) (ci := 0) izX0 3 rfl rfl 2 (by decide) kX1_31 rfl dX1_inscribe_115 ?_
          refine ii_iload_n 1 dX1_inscribe_118 rfl ?_
          refine ii_bipush dX1_inscribe_119 kb54 ?_
          refine ii_iload 3 dX1_inscribe_121 rfl ?_
          refine ii_iadd dX1_inscribe_123 ?_
          refine ii_aload_n 2 dX1_inscribe_124 rfl ?_
          refine ii_get (C := RX7) (T := TX7) (N := 10) (ci := 7) izX7 0 rfl rfl 0 (by decide) kX1_44 rfl dX1_inscribe_125 ?_
          refine ii_iload 3 dX1_inscribe_128 rfl ?_
          refine ii_iald h 1 0 rfl rfl dX1_inscribe_130 (fun t_11 h => ?_)
          obtain ⟨c_12, hc_12, h⟩ := bnd h
          refine ii_callVv (As := [.int p0, .int ((54 : Int32) + s_9.1), .int t_11]) (ws' := [(a_p2, .inr (7, [.ref a_p2_codes, .int v_p2_count, .ref a_p2_waiting, .int v_p2_waits, .int v_p2_open, .int v_p2_unitIsDue, .int v_p2_digits, .int v_p2_firstDigit, .int v_p2_number, .int v_p2_fault])), (a_p2_codes, .inl (cI, 50, .inl v_p2_codes)), (a_this, .inr (1, [.ref a_this_house, .ref a_this_stack, .int v_this_height, .int v_this_gate, .int v_this_kin, .int v_this_town, .int v_this_season, .long v_this_about])), (a_this_house, .inr (0, [.ref a_this_house_merchants, .ref a_this_house_texts, .ref a_this_house_acts, .ref a_this_house_debts, .ref a_this_house_payments, .ref a_this_house_purses, .ref a_this_house_gates, .ref a_this_house_stones, .ref a_this_house_told, .ref a_this_house_letters, .ref a_this_house_mentions, .ref a_this_house_loads, .ref a_this_house_prices, .int v_this_house_narrow, .int v_this_house_names])), (a_this_house_acts, .inr (8, [.int (104 : Int32), .int (16 : Int32), .ref a_this_house_acts_cells, .int v_this_house_acts_rows])), (a_this_house_acts_cells, .inl (cI, 1664, .inl c_12)), (a_this_house_texts, .inr (8, [.int (51 : Int32), .int (4 : Int32), .ref a_this_house_texts_cells, .int v_this_house_texts_rows])), (a_this_house_texts_cells, .inl (cI, 204, .inl v_this_house_texts_cells))]) (st := []) (c_X8_set l D cI cJ cZ cH a_this_house_acts a_this_house_acts_cells 1664 s_9.2 (16 : Int32) v_this_house_acts_rows (104 : Int32) p0 ((54 : Int32) + s_9.1) t_11 hc_12) gzX1_34 rfl rfl rfl eV_X8_set ⟨Nat.le_of_ble_eq_true rfl, Nat.le_of_ble_eq_true rfl⟩ rfl 4 rfl rfl [4, 5] rfl rfl rfl rfl rfl (Nat.le_of_ble_eq_true rfl) (Nat.le_refl _) (Nat.le_refl _) rfl dX1_inscribe_131 ?_
          refine ii_iinc (fun x_13 => [(5, .int x_13), (0, .ref a_this), (1, .int p0), (3, .ref a_p2)]) h 3 dX1_inscribe_134 rfl kc1 (by decide) (fun _ => rfl) (fun x_13 h => ?_)
          refine ii_goto (tgt := 92) dX1_inscribe_137 (by decide) ?_
          refine ii_lv [1, 2, 3, 0] rfl ?_
          cases h
          exact hb_9 (x_13, c_12) rfl
  · skip
    refine ii_iload 5 dX1_inscribe_31 rfl ?_
    refine ii_iload 4 dX1_inscribe_33 rfl ?_
    refine ii_icmp_gt (tgt := 72) h dX1_inscribe_35 (by decide) (fun h => ?_) (fun h => ?_)
    · skip
      refine ii_lv [0, 1, 3] rfl ?_
      cases h
      exact hx_3 (s_3.1, s_3.2) (hr_3 _ rfl)
    · skip
      refine ii_aload_n 0 dX1_inscribe_38 rfl ?_
      refine ii_get (C := RX1) (T := TX1) (N := 8) (ci := 1) izX1 2 rfl rfl 0 (by decide) kX1_15 rfl dX1_inscribe_39 ?_
      refine ii_get (C := RX0) (T := TX0) (N := 15) (ci := 0) izX0 3 rfl rfl 2 (by decide) kX1_31 rfl dX1_inscribe_42 ?_
      refine ii_iload_n 1 dX1_inscribe_45 rfl ?_
      refine ii_iconst dX1_inscribe_46 kc2 ?_
      refine ii_iload 5 dX1_inscribe_47 rfl ?_
      refine ii_iadd dX1_inscribe_49 ?_
      refine ii_aload_n 0 dX1_inscribe_50 rfl ?_
      refine ii_get (C := RX1) (T := TX1) (N := 8) (ci := 1) izX1 2 rfl rfl 0 (by decide) kX1_15 rfl dX1_inscribe_51 ?_
      refine ii_get (C := RX0) (T := TX0) (N := 15) (ci := 0) izX0 3 rfl rfl 1 (by decide) kX1_19 rfl dX1_inscribe_54 ?_
      refine ii_iload_n 2 dX1_inscribe_57 rfl ?_
      refine ii_iload 5 dX1_inscribe_58 rfl ?_
      obtain ⟨c_5, hc_5, h⟩ := bnd h
      refine ii_callVi (As := [.int p1, .int s_3.1]) (ws' := [(a_p2, .inr (7, [.ref a_p2_codes, .int v_p2_count, .ref a_p2_waiting, .int v_p2_waits, .int v_p2_open, .int v_p2_unitIsDue, .int v_p2_digits, .int v_p2_firstDigit, .int v_p2_number, .int v_p2_fault])), (a_p2_codes, .inl (cI, 50, .inl v_p2_codes)), (a_this, .inr (1, [.ref a_this_house, .ref a_this_stack, .int v_this_height, .int v_this_gate, .int v_this_kin, .int v_this_town, .int v_this_season, .long v_this_about])), (a_this_house, .inr (0, [.ref a_this_house_merchants, .ref a_this_house_texts, .ref a_this_house_acts, .ref a_this_house_debts, .ref a_this_house_payments, .ref a_this_house_purses, .ref a_this_house_gates, .ref a_this_house_stones, .ref a_this_house_told, .ref a_this_house_letters, .ref a_this_house_mentions, .ref a_this_house_loads, .ref a_this_house_prices, .int v_this_house_narrow, .int v_this_house_names])), (a_this_house_acts, .inr (8, [.int (104 : Int32), .int (16 : Int32), .ref a_this_house_acts_cells, .int v_this_house_acts_rows])), (a_this_house_acts_cells, .inl (cI, 1664, .inl s_3.2)), (a_this_house_texts, .inr (8, [.int (51 : Int32), .int (4 : Int32), .ref a_this_house_texts_cells, .int v_this_house_texts_rows])), (a_this_house_texts_cells, .inl (cI, 204, .inl v_this_house_texts_cells))]) (st := [.int ((2 : Int32) + s_3.1), .int p0, .ref a_this_house_acts]) (c_X8_get l D cI cJ cZ cH a_this_house_texts a_this_house_texts_cells 204 v_this_house_texts_cells (4 : Int32) v_this_house_texts_rows (51 : Int32) p1 s_3.1 hc_5) gzX1_25 rfl rfl rfl eV_X8_get ⟨Nat.le_of_ble_eq_true rfl, Nat.le_of_ble_eq_true rfl⟩ rfl 6 rfl rfl [6, 7] rfl rfl rfl rfl rfl (Nat.le_of_ble_eq_true rfl) (Nat.le_refl _) (Nat.le_refl _) rfl dX1_inscribe_60 ?_
      obtain ⟨c_6, hc_6, h⟩ := bnd h
      refine ii_callVv (As := [.int p0, .int ((2 : Int32) + s_3.1), .int c_5]) (ws' := [(a_p2, .inr (7, [.ref a_p2_codes, .int v_p2_count, .ref a_p2_waiting, .int v_p2_waits, .int v_p2_open, .int v_p2_unitIsDue, .int v_p2_digits, .int v_p2_firstDigit, .int v_p2_number, .int v_p2_fault])), (a_p2_codes, .inl (cI, 50, .inl v_p2_codes)), (a_this, .inr (1, [.ref a_this_house, .ref a_this_stack, .int v_this_height, .int v_this_gate, .int v_this_kin, .int v_this_town, .int v_this_season, .long v_this_about])), (a_this_house, .inr (0, [.ref a_this_house_merchants, .ref a_this_house_texts, .ref a_this_house_acts, .ref a_this_house_debts, .ref a_this_house_payments, .ref a_this_house_purses, .ref a_this_house_gates, .ref a_this_house_stones, .ref a_this_house_told, .ref a_this_house_letters, .ref a_this_house_mentions, .ref a_this_house_loads, .ref a_this_house_prices, .int v_this_house_narrow, .int v_this_house_names])), (a_this_house_acts, .inr (8, [.int (104 : Int32), .int (16 : Int32), .ref a_this_house_acts_cells, .int v_this_house_acts_rows])), (a_this_house_acts_cells, .inl (cI, 1664, .inl c_6)), (a_this_house_texts, .inr (8, [.int (51 : Int32), .int (4 : Int32), .ref a_this_house_texts_cells, .int v_this_house_texts_rows])), (a_this_house_texts_cells, .inl (cI, 204, .inl v_this_house_texts_cells))]) (st := []) (c_X8_set l D cI cJ cZ cH a_this_house_acts a_this_house_acts_cells 1664 s_3.2 (16 : Int32) v_this_house_acts_rows (104 : Int32) p0 ((2 : Int32) + s_3.1) c_5 hc_6) gzX1_34 rfl rfl rfl eV_X8_set ⟨Nat.le_of_ble_eq_true rfl, Nat.le_of_ble_eq_true rfl⟩ rfl 4 rfl rfl [4, 5] rfl rfl rfl rfl rfl (Nat.le_of_ble_eq_true rfl) (Nat.le_refl _) (Nat.le_refl _) rfl dX1_inscribe_63 ?_
      refine ii_iinc (fun x_7 => [(5, .int x_7), (0, .ref a_this), (1, .int p0), (2, .int p1), (3, .ref a_p2), (4, .int c_1)]) h 5 dX1_inscribe_66 rfl kc1 (by decide) (fun _ => rfl) (fun x_7 h => ?_)
      refine ii_goto (tgt := 31) dX1_inscribe_69 (by decide) ?_
      refine ii_lv [1, 2, 3, 4, 5, 0] rfl ?_
      cases h
      exact hb_3 (x_7, c_6) rfl
set_option maxHeartbeats 4000000 in
set_option maxRecDepth 100000 in
theorem c_X1_inForce (l : Launch) (D : va_G) (cI cJ cZ cH : ClassId) (a_this a_this_house a_this_house_acts a_this_house_acts_cells a_this_house_debts a_this_house_gates a_this_house_letters a_this_house_loads a_this_house_mentions a_this_house_merchants a_this_house_payments a_this_house_prices a_this_house_purses a_this_house_stones a_this_house_texts a_this_house_told a_this_stack : Nat) (v_this_about : Int64) (v_this_gate : Int32) (v_this_height : Int32) (v_this_house_acts_cells : Nat → Int32) (v_this_house_acts_rows : Int32) (v_this_house_names : Int32) (v_this_house_narrow : Int32) (v_this_kin : Int32) (v_this_season : Int32) (v_this_town : Int32) (p0 : Int32) (p1 : Int32) {res : Int32} (h : F_X1_inForce v_this_house_acts_cells v_this_house_acts_rows p0 p1 = some res) : CTi l yX1_inForce wzX1_inForce { frames := 2, cells := 0, slots := 0, locals := 46 } D [(cI, .int), (cJ, .long), (cZ, .boolean), (cH, .object "TinHouse$House")] [.ref a_this, .int p0, .int p1] [(a_this, .inr (1, [.ref a_this_house, .ref a_this_stack, .int v_this_height, .int v_this_gate, .int v_this_kin, .int v_this_town, .int v_this_season, .long v_this_about])), (a_this_house, .inr (0, [.ref a_this_house_merchants, .ref a_this_house_texts, .ref a_this_house_acts, .ref a_this_house_debts, .ref a_this_house_payments, .ref a_this_house_purses, .ref a_this_house_gates, .ref a_this_house_stones, .ref a_this_house_told, .ref a_this_house_letters, .ref a_this_house_mentions, .ref a_this_house_loads, .ref a_this_house_prices, .int v_this_house_narrow, .int v_this_house_names])), (a_this_house_acts, .inr (8, [.int (104 : Int32), .int (16 : Int32), .ref a_this_house_acts_cells, .int v_this_house_acts_rows])), (a_this_house_acts_cells, .inl (cI, 1664, .inl v_this_house_acts_cells))] res [(a_this, .inr (1, [.ref a_this_house, .ref a_this_stack, .int v_this_height, .int v_this_gate, .int v_this_kin, .int v_this_town, .int v_this_season, .long v_this_about])), (a_this_house, .inr (0, [.ref a_this_house_merchants, .ref a_this_house_texts, .ref a_this_house_acts, .ref a_this_house_debts, .ref a_this_house_payments, .ref a_this_house_purses, .ref a_this_house_gates, .ref a_this_house_stones, .ref a_this_house_told, .ref a_this_house_letters, .ref a_this_house_mentions, .ref a_this_house_loads, .ref a_this_house_prices, .int v_this_house_narrow, .int v_this_house_names])), (a_this_house_acts, .inr (8, [.int (104 : Int32), .int (16 : Int32), .ref a_this_house_acts_cells, .int v_this_house_acts_rows])), (a_this_house_acts_cells, .inl (cI, 1664, .inl v_this_house_acts_cells))] := by
  unfold F_X1_inForce at h
  refine ii_metI (own := RX1) (lv0 := [(0, .ref a_this), (1, .int p0), (2, .int p1)]) (by decide) rfl rfl rfl (Nat.le_of_ble_eq_true rfl) (fun {p e s m args below meth c A Q} hQ => ?_)
  refine ii_iconst dX1_inForce_0 kcm1 ?_
  refine ii_istore_n (lv' := [(3, .int (-1 : Int32)), (0, .ref a_this), (1, .int p0), (2, .int p1)]) dX1_inForce_1 rfl (by decide) rfl ?_
  refine ii_iconst dX1_inForce_2 kcm1 ?_
  refine ii_istore (lv' := [(4, .int (-1 : Int32)), (3, .int (-1 : Int32)), (0, .ref a_this), (1, .int p0), (2, .int p1)]) dX1_inForce_3 (by decide) rfl ?_
  refine ii_iconst dX1_inForce_5 kc0 ?_
  refine ii_istore (lv' := [(5, .int (0 : Int32)), (4, .int (-1 : Int32)), (3, .int (-1 : Int32)), (0, .ref a_this), (1, .int p0), (2, .int p1)]) dX1_inForce_6 (by decide) rfl ?_
  refine ii_lv [3, 4, 5, 2, 1, 0] rfl ?_
  obtain ⟨x_2, hl_1, h⟩ := bnd h
  refine ii_loopX (fun s_1 => [(a_this, .inr (1, [.ref a_this_house, .ref a_this_stack, .int v_this_height, .int v_this_gate, .int v_this_kin, .int v_this_town, .int v_this_season, .long v_this_about])), (a_this_house, .inr (0, [.ref a_this_house_merchants, .ref a_this_house_texts, .ref a_this_house_acts, .ref a_this_house_debts, .ref a_this_house_payments, .ref a_this_house_purses, .ref a_this_house_gates, .ref a_this_house_stones, .ref a_this_house_told, .ref a_this_house_letters, .ref a_this_house_mentions, .ref a_this_house_loads, .ref a_this_house_prices, .int v_this_house_narrow, .int v_this_house_names])), (a_this_house_acts, .inr (8, [.int (104 : Int32), .int (16 : Int32), .ref a_this_house_acts_cells, .int v_this_house_acts_rows])), (a_this_house_acts_cells, .inl (cI, 1664, .inl v_this_house_acts_cells))]) (fun s_1 => [(0, .ref a_this), (1, .int p0), (2, .int p1), (3, .int s_1.1), (4, .int s_1.2.1), (5, .int s_1.2.2)]) (fun x_2 => [(a_this, .inr (1, [.ref a_this_house, .ref a_this_stack, .int v_this_height, .int v_this_gate, .int v_this_kin, .int v_this_town, .int v_this_season, .long v_this_about])), (a_this_house, .inr (0, [.ref a_this_house_merchants, .ref a_this_house_texts, .ref a_this_house_acts, .ref a_this_house_debts, .ref a_this_house_payments, .ref a_this_house_purses, .ref a_this_house_gates, .ref a_this_house_stones, .ref a_this_house_told, .ref a_this_house_letters, .ref a_this_house_mentions, .ref a_this_house_loads, .ref a_this_house_prices, .int v_this_house_narrow, .int v_this_house_names])), (a_this_house_acts, .inr (8, [.int (104 : Int32), .int (16 : Int32), .ref a_this_house_acts_cells, .int v_this_house_acts_rows])), (a_this_house_acts_cells, .inl (cI, 1664, .inl v_this_house_acts_cells))]) (fun x_2 => [(3, .int x_2.1)]) 81 hl_1 rfl rfl ?_ (fun s_1 o h hb_1 hr_1 hx_1 => ?_)
  · skip
    refine ii_iload_n 0 dX1_inForce_81 rfl ?_
    cases h
    exact hQ _ _ dX1_inForce_82
  · skip
    refine ii_iload 5 dX1_inForce_8 rfl ?_
    refine ii_aload_n 0 dX1_inForce_10 rfl ?_
    refine ii_get (C := RX1) (T := TX1) (N := 8) (ci := 1) izX1 0 rfl rfl 0 (by decide) kX1_15 rfl dX1_inForce_11 ?_
    refine ii_get (C := RX0) (T := TX0) (N := 15) (ci := 0) izX0 1 rfl rfl 2 (by decide) kX1_31 rfl dX1_inForce_14 ?_
    refine ii_get (C := RX8) (T := TX8) (N := 4) (ci := 8) izX8 2 rfl rfl 3 (by decide) kX1_48 rfl dX1_inForce_17 ?_
    refine ii_icmp_ge (tgt := 81) h dX1_inForce_20 (by decide) (fun h => ?_) (fun h => ?_)
    · skip
      refine ii_lv [3] rfl ?_
      cases h
      exact hx_1 (s_1.1, s_1.2.1, s_1.2.2) (hr_1 _ rfl)
    · skip
      refine ii_aload_n 0 dX1_inForce_23 rfl ?_
      refine ii_get (C := RX1) (T := TX1) (N := 8) (ci := 1) izX1 0 rfl rfl 0 (by decide) kX1_15 rfl dX1_inForce_24 ?_
      refine ii_get (C := RX0) (T := TX0) (N := 15) (ci := 0) izX0 1 rfl rfl 2 (by decide) kX1_31 rfl dX1_inForce_27 ?_
      refine ii_iload 5 dX1_inForce_30 rfl ?_
      refine ii_iconst dX1_inForce_32 kc1 ?_
      obtain ⟨c_3, hc_3, h⟩ := bnd h
      refine ii_callVi (As := [.int s_1.2.2, .int (1 : Int32)]) (ws' := [(a_this, .inr (1, [.ref a_this_house, .ref a_this_stack, .int v_this_height, .int v_this_gate, .int v_this_kin, .int v_this_town, .int v_this_season, .long v_this_about])), (a_this_house, .inr (0, [.ref a_this_house_merchants, .ref a_this_house_texts, .ref a_this_house_acts, .ref a_this_house_debts, .ref a_this_house_payments, .ref a_this_house_purses, .ref a_this_house_gates, .ref a_this_house_stones, .ref a_this_house_told, .ref a_this_house_letters, .ref a_this_house_mentions, .ref a_this_house_loads, .ref a_this_house_prices, .int v_this_house_narrow, .int v_this_house_names])), (a_this_house_acts, .inr (8, [.int (104 : Int32), .int (16 : Int32), .ref a_this_house_acts_cells, .int v_this_house_acts_rows])), (a_this_house_acts_cells, .inl (cI, 1664, .inl v_this_house_acts_cells))]) (st := []) (c_X8_get l D cI cJ cZ cH a_this_house_acts a_this_house_acts_cells 1664 v_this_house_acts_cells (16 : Int32) v_this_house_acts_rows (104 : Int32) s_1.2.2 (1 : Int32) hc_3) gzX1_25 rfl rfl rfl eV_X8_get ⟨Nat.le_of_ble_eq_true rfl, Nat.le_of_ble_eq_true rfl⟩ rfl 2 rfl rfl [2, 3] rfl rfl rfl rfl rfl (Nat.le_of_ble_eq_true rfl) (Nat.le_refl _) (Nat.le_refl _) rfl dX1_inForce_33 ?_
      refine ii_istore (lv' := [(6, .int c_3), (0, .ref a_this), (1, .int p0), (2, .int p1), (3, .int s_1.1), (4, .int s_1.2.1), (5, .int s_1.2.2)]) dX1_inForce_36 (by decide) rfl ?_
      refine ii_aload_n 1 dX1_inForce_38 rfl ?_
      refine ii_get (C := RX1) (T := TX1) (N := 8) (ci := 1) izX1 0 rfl rfl 0 (by decide) kX1_15 rfl dX1_inForce_39 ?_
      refine ii_get (C := RX0) (T := TX0) (N := 15) (ci := 0) izX0 1 rfl rfl 2 (by decide) kX1_31 rfl dX1_inForce_42 ?_
      refine ii_iload 6 dX1_inForce_45 rfl ?_
      refine ii_iconst dX1_inForce_47 kc0 ?_
      obtain ⟨c_4, hc_4, h⟩ := bnd h
      refine ii_callVi (As := [.int s_1.2.2, .int (0 : Int32)]) (ws' := [(a_this, .inr (1, [.ref a_this_house, .ref a_this_stack, .int v_this_height, .int v_this_gate, .int v_this_kin, .int v_this_town, .int v_this_season, .long v_this_about])), (a_this_house, .inr (0, [.ref a_this_house_merchants, .ref a_this_house_texts, .ref a_this_house_acts, .ref a_this_house_debts, .ref a_this_house_payments, .ref a_this_house_purses, .ref a_this_house_gates, .ref a_this_house_stones, .ref a_this_house_told, .ref a_this_house_letters, .ref a_this_house_mentions, .ref a_this_house_loads, .ref a_this_house_prices, .int v_this_house_narrow, .int v_this_house_names])), (a_this_house_acts, .inr (8, [.int (104 : Int32), .int (16 : Int32), .ref a_this_house_acts_cells, .int v_this_house_acts_rows])), (a_this_house_acts_cells, .inl (cI, 1664, .inl v_this_house_acts_cells))]) (st := []) (c_X8_get l D cI cJ cZ cH a_this_house_acts a_this_house_acts_cells 1664 v_this_house_acts_cells (16 : Int32) v_this_house_acts_rows (104 : Int32) s_1.2.2 (0 : Int32) hc_4) gzX1_25 rfl rfl rfl eV_X8_get ⟨Nat.le_of_ble_eq_true rfl, Nat.le_of_ble_eq_true rfl⟩ rfl 2 rfl rfl [2, 3] rfl rfl rfl rfl rfl (Nat.le_of_ble_eq_true rfl) (Nat.le_refl _) (Nat.le_refl _) rfl dX1_inForce_48 ?_
      refine ii_iload_n 2 dX1_inForce_51 rfl ?_
      refine ii_jn h (fun j_5 => [(a_this, .inr (1, [.ref a_this_house, .ref a_this_stack, .int v_this_height, .int v_this_gate, .int v_this_kin, .int v_this_town, .int v_this_season, .long v_this_about])), (a_this_house, .inr (0, [.ref a_this_house_merchants, .ref a_this_house_texts, .ref a_this_house_acts, .ref a_this_house_debts, .ref a_this_house_payments, .ref a_this_house_purses, .ref a_this_house_gates, .ref a_this_house_stones, .ref a_this_house_told, .ref a_this_house_letters, .ref a_this_house_mentions, .ref a_this_house_loads, .ref a_this_house_prices, .int v_this_house_narrow, .int v_this_house_names])), (a_this_house_acts, .inr (8, [.int (104 : Int32), .int (16 : Int32), .ref a_this_house_acts_cells, .int v_this_house_acts_rows])), (a_this_house_acts_cells, .inl (cI, 1664, .inl v_this_house_acts_cells))]) (fun j_5 => [(0, .ref a_this), (1, .int p0), (2, .int p1), (3, .int j_5.1), (4, .int j_5.2), (5, .int s_1.2.2)]) 75 (fun j_5 => []) (fun j_5 h => ?_) (fun j_5 h hjj_5 => ?_)
      · skip
        refine ii_iinc (fun x_6 => [(5, .int x_6), (0, .ref a_this), (1, .int p0), (2, .int p1), (3, .int j_5.1), (4, .int j_5.2)]) h 5 dX1_inForce_75 rfl kc1 (by decide) (fun _ => rfl) (fun x_6 h => ?_)
        refine ii_goto (tgt := 8) dX1_inForce_78 (by decide) ?_
        refine ii_lv [1, 2, 3, 4, 5, 0] rfl ?_
        cases h
        exact hb_1 (j_5.1, j_5.2, x_6) rfl
      · skip
        refine ii_icmp_ne (tgt := 75) h dX1_inForce_52 (by decide) (fun h => ?_) (fun h => ?_)
        · skip
          refine ii_lv [1, 2, 3, 4, 5, 6] rfl ?_
          cases h
          exact hjj_5
        · skip
          refine ii_iload 0 dX1_inForce_55 rfl ?_
          refine ii_iload_n 3 dX1_inForce_57 rfl ?_
          refine ii_icmp_gt (tgt := 75) h dX1_inForce_58 (by decide) (fun h => ?_) (fun h => ?_)
          · skip
            refine ii_lv [1, 2, 3, 4, 5, 6] rfl ?_
            cases h
            exact hjj_5
          · skip
            refine ii_iload 0 dX1_inForce_61 rfl ?_
            refine ii_iload 5 dX1_inForce_63 rfl ?_
            refine ii_icmp_lt (tgt := 75) h dX1_inForce_65 (by decide) (fun h => ?_) (fun h => ?_)
            · skip
              refine ii_lv [1, 2, 3, 4, 5, 6] rfl ?_
              cases h
              exact hjj_5
            · skip
              refine ii_iload 6 dX1_inForce_68 rfl ?_
              refine ii_istore_n (lv' := [(3, .int s_1.2.2), (6, .int c_3), (0, .ref a_this), (1, .int p0), (2, .int p1), (4, .int s_1.2.1), (5, .int s_1.2.2)]) dX1_inForce_70 rfl (by decide) rfl ?_
              refine ii_iload 1 dX1_inForce_71 rfl ?_
              refine ii_istore (lv' := [(4, .int c_3), (3, .int s_1.2.2), (6, .int c_3), (0, .ref a_this), (1, .int p0), (2, .int p1), (5, .int s_1.2.2)]) dX1_inForce_73 (by decide) rfl ?_
              refine ii_lv [3, 4, 5, 1, 0, 6] rfl ?_
              cases h
              exact hjj_5
set_option maxHeartbeats 4000000 in
set_option maxRecDepth 100000 in
theorem c_X1_meet (l : Launch) (D : va_G) (cI cJ cZ cH : ClassId) (a_this a_this_house a_this_stack : Nat) (v_this_about : Int64) (v_this_gate : Int32) (v_this_height : Int32) (v_this_kin : Int32) (v_this_season : Int32) (v_this_town : Int32) (p0 : Int32) (p1 : Int32) (p2 : Int32) (p3 : Int32) (p4 : Int64) {res : Int64 × Int32 × Int32 × Int32 × Int32} (h : F_X1_meet v_this_about v_this_gate v_this_kin v_this_season v_this_town p0 p1 p2 p3 p4 = some res) : CTv l yX1_meet wzX1_meet { frames := 0, cells := 0, slots := 0, locals := 0 } D [(cI, .int), (cJ, .long), (cZ, .boolean), (cH, .object "TinHouse$House")] [.ref a_this, .int p0, .int p1, .int p2, .int p3, .long p4] [(a_this, .inr (1, [.ref a_this_house, .ref a_this_stack, .int v_this_height, .int v_this_gate, .int v_this_kin, .int v_this_town, .int v_this_season, .long v_this_about]))] [(a_this, .inr (1, [.ref a_this_house, .ref a_this_stack, .int v_this_height, .int res.2.1, .int res.2.2.1, .int res.2.2.2.2, .int res.2.2.2.1, .long res.1]))] := by
  unfold F_X1_meet at h
  refine ii_metV (own := RX1) (lv0 := [(0, .ref a_this), (1, .int p0), (2, .int p1), (3, .int p2), (4, .int p3), (5, .long p4)]) (by decide) rfl rfl rfl (Nat.le_of_ble_eq_true rfl) (fun {p e s m args below meth c A Q} hQ => ?_)
  refine ii_aload_n 0 dX1_meet_0 rfl ?_
  refine ii_iload_n 1 dX1_meet_1 rfl ?_
  refine ii_put (C := RX1) (T := TX1) (N := 8) (ci := 1) (ty0 := tyX1) (ws' := [(a_this, .inr (1, [.ref a_this_house, .ref a_this_stack, .int v_this_height, .int p0, .int v_this_kin, .int v_this_town, .int v_this_season, .long v_this_about]))]) izX1 tyX1_ok nmX1 0 rfl rfl 3 (by decide) kX1_83 rfl rfl rfl (Nat.le_of_ble_eq_true rfl) dX1_meet_2 rfl ?_
  refine ii_aload_n 0 dX1_meet_5 rfl ?_
  refine ii_iload_n 2 dX1_meet_6 rfl ?_
  refine ii_put (C := RX1) (T := TX1) (N := 8) (ci := 1) (ty0 := tyX1) (ws' := [(a_this, .inr (1, [.ref a_this_house, .ref a_this_stack, .int v_this_height, .int p0, .int p1, .int v_this_town, .int v_this_season, .long v_this_about]))]) izX1 tyX1_ok nmX1 0 rfl rfl 4 (by decide) kX1_86 rfl rfl rfl (Nat.le_of_ble_eq_true rfl) dX1_meet_7 rfl ?_
  refine ii_aload_n 0 dX1_meet_10 rfl ?_
  refine ii_iload_n 3 dX1_meet_11 rfl ?_
  refine ii_put (C := RX1) (T := TX1) (N := 8) (ci := 1) (ty0 := tyX1) (ws' := [(a_this, .inr (1, [.ref a_this_house, .ref a_this_stack, .int v_this_height, .int p0, .int p1, .int p2, .int v_this_season, .long v_this_about]))]) izX1 tyX1_ok nmX1 0 rfl rfl 5 (by decide) kX1_89 rfl rfl rfl (Nat.le_of_ble_eq_true rfl) dX1_meet_12 rfl ?_
  refine ii_aload_n 0 dX1_meet_15 rfl ?_
  refine ii_iload 4 dX1_meet_16 rfl ?_
  refine ii_put (C := RX1) (T := TX1) (N := 8) (ci := 1) (ty0 := tyX1) (ws' := [(a_this, .inr (1, [.ref a_this_house, .ref a_this_stack, .int v_this_height, .int p0, .int p1, .int p2, .int p3, .long v_this_about]))]) izX1 tyX1_ok nmX1 0 rfl rfl 6 (by decide) kX1_92 rfl rfl rfl (Nat.le_of_ble_eq_true rfl) dX1_meet_18 rfl ?_
  refine ii_aload_n 0 dX1_meet_21 rfl ?_
  refine ii_lload 5 dX1_meet_22 rfl ?_
  refine ii_put (C := RX1) (T := TX1) (N := 8) (ci := 1) (ty0 := tyX1) (ws' := [(a_this, .inr (1, [.ref a_this_house, .ref a_this_stack, .int v_this_height, .int p0, .int p1, .int p2, .int p3, .long p4]))]) izX1 tyX1_ok nmX1 0 rfl rfl 7 (by decide) kX1_95 rfl rfl rfl (Nat.le_of_ble_eq_true rfl) dX1_meet_24 rfl ?_
  cases h
  exact hQ _ _ dX1_meet_27
set_option maxHeartbeats 4000000 in
set_option maxRecDepth 100000 in
theorem c_X1_pop (l : Launch) (D : va_G) (cI cJ cZ cH : ClassId) (a_this a_this_house a_this_stack : Nat) (v_this_about : Int64) (v_this_gate : Int32) (v_this_height : Int32) (v_this_kin : Int32) (v_this_season : Int32) (v_this_stack : Nat → Int64) (v_this_town : Int32) {res : Int64 × Int32} (h : F_X1_pop v_this_height v_this_stack = some res) : CTl l yX1_pop wzX1_pop { frames := 0, cells := 0, slots := 0, locals := 0 } D [(cI, .int), (cJ, .long), (cZ, .boolean), (cH, .object "TinHouse$House")] [.ref a_this] [(a_this, .inr (1, [.ref a_this_house, .ref a_this_stack, .int v_this_height, .int v_this_gate, .int v_this_kin, .int v_this_town, .int v_this_season, .long v_this_about])), (a_this_stack, .inl (cJ, 50, .inr (.inl v_this_stack)))] res.1 [(a_this, .inr (1, [.ref a_this_house, .ref a_this_stack, .int res.2, .int v_this_gate, .int v_this_kin, .int v_this_town, .int v_this_season, .long v_this_about])), (a_this_stack, .inl (cJ, 50, .inr (.inl v_this_stack)))] := by
  unfold F_X1_pop at h
  refine ii_metL (own := RX1) (lv0 := [(0, .ref a_this)]) (by decide) rfl rfl rfl (Nat.le_of_ble_eq_true rfl) (fun {p e s m args below meth c A Q} hQ => ?_)
  refine ii_aload_n 0 dX1_pop_0 rfl ?_
  refine ii_get (C := RX1) (T := TX1) (N := 8) (ci := 1) izX1 0 rfl rfl 2 (by decide) kX1_99 rfl dX1_pop_1 ?_
  refine ii_if_le (tgt := 19) h dX1_pop_4 (by decide) (fun h => ?_) (fun h => ?_)
  · skip
    refine ii_lconst dX1_pop_19 kl0 ?_
    cases h
    exact hQ _ _ dX1_pop_20
  · skip
    refine ii_aload_n 0 dX1_pop_7 rfl ?_
    refine ii_get (C := RX1) (T := TX1) (N := 8) (ci := 1) izX1 0 rfl rfl 2 (by decide) kX1_99 rfl dX1_pop_8 ?_
    refine ii_aload_n 0 dX1_pop_11 rfl ?_
    refine ii_get (C := RX1) (T := TX1) (N := 8) (ci := 1) izX1 0 rfl rfl 1 (by decide) kX1_9 rfl dX1_pop_12 ?_
    refine ii_alen (v := (50 : Int32)) 1 1 rfl rfl rfl dX1_pop_15 ?_
    refine ii_icmp_le (tgt := 21) h dX1_pop_16 (by decide) (fun h => ?_) (fun h => ?_)
    · skip
      refine ii_aload_n 0 dX1_pop_21 rfl ?_
      refine ii_dup dX1_pop_22 rfl ?_
      refine ii_get (C := RX1) (T := TX1) (N := 8) (ci := 1) izX1 0 rfl rfl 2 (by decide) kX1_99 rfl dX1_pop_23 ?_
      refine ii_iconst dX1_pop_26 kc1 ?_
      refine ii_isub dX1_pop_27 ?_
      refine ii_topI h (fun x_1 h => ?_)
      refine ii_put (C := RX1) (T := TX1) (N := 8) (ci := 1) (ty0 := tyX1) (ws' := [(a_this, .inr (1, [.ref a_this_house, .ref a_this_stack, .int x_1, .int v_this_gate, .int v_this_kin, .int v_this_town, .int v_this_season, .long v_this_about])), (a_this_stack, .inl (cJ, 50, .inr (.inl v_this_stack)))]) izX1 tyX1_ok nmX1 0 rfl rfl 2 (by decide) kX1_99 rfl rfl rfl (Nat.le_of_ble_eq_true rfl) dX1_pop_28 rfl ?_
      refine ii_aload_n 0 dX1_pop_31 rfl ?_
      refine ii_get (C := RX1) (T := TX1) (N := 8) (ci := 1) izX1 0 rfl rfl 1 (by decide) kX1_9 rfl dX1_pop_32 ?_
      refine ii_aload_n 0 dX1_pop_35 rfl ?_
      refine ii_get (C := RX1) (T := TX1) (N := 8) (ci := 1) izX1 0 rfl rfl 2 (by decide) kX1_99 rfl dX1_pop_36 ?_
      refine ii_lald h 1 1 rfl rfl dX1_pop_39 (fun t_2 h => ?_)
      cases h
      exact hQ _ _ dX1_pop_40
    · skip
      refine ii_lconst dX1_pop_19 kl0 ?_
      cases h
      exact hQ _ _ dX1_pop_20
set_option maxHeartbeats 4000000 in
set_option maxRecDepth 100000 in
theorem c_X1_push (l : Launch) (D : va_G) (cI cJ cZ cH : ClassId) (a_this a_this_house a_this_stack : Nat) (v_this_about : Int64) (v_this_gate : Int32) (v_this_height : Int32) (v_this_kin : Int32) (v_this_season : Int32) (v_this_stack : Nat → Int64) (v_this_town : Int32) (p0 : Int64) {res : Int32 × (Nat → Int64)} (h : F_X1_push v_this_height v_this_stack p0 = some res) : CTv l yX1_push wzX1_push { frames := 0, cells := 0, slots := 0, locals := 0 } D [(cI, .int), (cJ, .long), (cZ, .boolean), (cH, .object "TinHouse$House")] [.ref a_this, .long p0] [(a_this, .inr (1, [.ref a_this_house, .ref a_this_stack, .int v_this_height, .int v_this_gate, .int v_this_kin, .int v_this_town, .int v_this_season, .long v_this_about])), (a_this_stack, .inl (cJ, 50, .inr (.inl v_this_stack)))] [(a_this, .inr (1, [.ref a_this_house, .ref a_this_stack, .int res.1, .int v_this_gate, .int v_this_kin, .int v_this_town, .int v_this_season, .long v_this_about])), (a_this_stack, .inl (cJ, 50, .inr (.inl res.2)))] := by
  unfold F_X1_push at h
  refine ii_metV (own := RX1) (lv0 := [(0, .ref a_this), (1, .long p0)]) (by decide) rfl rfl rfl (Nat.le_of_ble_eq_true rfl) (fun {p e s m args below meth c A Q} hQ => ?_)
  refine ii_aload_n 0 dX1_push_0 rfl ?_
  refine ii_get (C := RX1) (T := TX1) (N := 8) (ci := 1) izX1 0 rfl rfl 2 (by decide) kX1_99 rfl dX1_push_1 ?_
  refine ii_jn h (fun j_1 => [(a_this, .inr (1, [.ref a_this_house, .ref a_this_stack, .int j_1.1, .int v_this_gate, .int v_this_kin, .int v_this_town, .int v_this_season, .long v_this_about])), (a_this_stack, .inl (cJ, 50, .inr (.inl j_1.2)))]) (fun j_1 => []) 39 (fun j_1 => []) (fun j_1 h => ?_) (fun j_1 h hjj_1 => ?_)
  · skip
    cases h
    exact hQ _ _ dX1_push_39
  · skip
    refine ii_if_lt (tgt := 39) h dX1_push_4 (by decide) (fun h => ?_) (fun h => ?_)
    · skip
      refine ii_lv [] rfl ?_
      cases h
      exact hjj_1
    · skip
      refine ii_aload_n 0 dX1_push_7 rfl ?_
      refine ii_get (C := RX1) (T := TX1) (N := 8) (ci := 1) izX1 0 rfl rfl 2 (by decide) kX1_99 rfl dX1_push_8 ?_
      refine ii_aload_n 0 dX1_push_11 rfl ?_
      refine ii_get (C := RX1) (T := TX1) (N := 8) (ci := 1) izX1 0 rfl rfl 1 (by decide) kX1_9 rfl dX1_push_12 ?_
      refine ii_alen (v := (50 : Int32)) 1 1 rfl rfl rfl dX1_push_15 ?_
      refine ii_icmp_ge (tgt := 39) h dX1_push_16 (by decide) (fun h => ?_) (fun h => ?_)
      · skip
        refine ii_lv [] rfl ?_
        cases h
        exact hjj_1
      · skip
        refine ii_aload_n 0 dX1_push_19 rfl ?_
        refine ii_get (C := RX1) (T := TX1) (N := 8) (ci := 1) izX1 0 rfl rfl 1 (by decide) kX1_9 rfl dX1_push_20 ?_
        refine ii_aload_n 0 dX1_push_23 rfl ?_
        refine ii_get (C := RX1) (T := TX1) (N := 8) (ci := 1) izX1 0 rfl rfl 2 (by decide) kX1_99 rfl dX1_push_24 ?_
        refine ii_lload_n 1 dX1_push_27 rfl ?_
        refine ii_last (fun g_2 => [(a_this, .inr (1, [.ref a_this_house, .ref a_this_stack, .int v_this_height, .int v_this_gate, .int v_this_kin, .int v_this_town, .int v_this_season, .long v_this_about])), (a_this_stack, .inl (cJ, 50, .inr (.inl g_2)))]) h 1 1 rfl rfl dX1_push_28 (fun _ => rfl) (fun g_2 h => ?_)
        refine ii_aload_n 0 dX1_push_29 rfl ?_
        refine ii_dup dX1_push_30 rfl ?_
        refine ii_get (C := RX1) (T := TX1) (N := 8) (ci := 1) izX1 0 rfl rfl 2 (by decide) kX1_99 rfl dX1_push_31 ?_
        refine ii_iconst dX1_push_34 kc1 ?_
        refine ii_iadd dX1_push_35 ?_
        refine ii_topI h (fun x_3 h => ?_)
        refine ii_put (C := RX1) (T := TX1) (N := 8) (ci := 1) (ty0 := tyX1) (ws' := [(a_this, .inr (1, [.ref a_this_house, .ref a_this_stack, .int x_3, .int v_this_gate, .int v_this_kin, .int v_this_town, .int v_this_season, .long v_this_about])), (a_this_stack, .inl (cJ, 50, .inr (.inl g_2)))]) izX1 tyX1_ok nmX1 0 rfl rfl 2 (by decide) kX1_99 rfl rfl rfl (Nat.le_of_ble_eq_true rfl) dX1_push_36 rfl ?_
        refine ii_lv [] rfl ?_
        cases h
        exact hjj_1
set_option maxHeartbeats 4000000 in
set_option maxRecDepth 100000 in
theorem c_X1_joined (l : Launch) (D : va_G) (cI cJ cZ cH : ClassId) (p0 : Int32) (p1 : Int64) (p2 : Int64) {res : Int64} (h : F_X1_joined p0 p1 p2 = some res) : CTl l yX1_joined wzX1_joined { frames := 0, cells := 0, slots := 0, locals := 0 } D [(cI, .int), (cJ, .long), (cZ, .boolean), (cH, .object "TinHouse$House")] [.int p0, .long p1, .long p2] [] res [] := by
  unfold F_X1_joined at h
  refine ii_metL (own := RX1) (lv0 := [(0, .int p0), (1, .long p1), (3, .long p2)]) (by decide) rfl rfl rfl (Nat.le_of_ble_eq_true rfl) (fun {p e s m args below meth c A Q} hQ => ?_)
  refine ii_iload_n 0 dX1_joined_0 rfl ?_
  refine ii_sw h (fun hq38 h => ?_) (fun hq38 h => ?_)
  · skip
    refine ii_lookup (tgt := 102) (off := 101) dX1_joined_1 rfl (by rw [hq38] <;> decide) (by decide) ?_
    refine ii_lload_n 1 dX1_joined_102 rfl ?_
    refine ii_lconst dX1_joined_103 kl0 ?_
    refine ii_jn h (fun j_1 => []) (fun j_1 => []) 119 (fun j_1 => [.long j_1]) (fun j_1 h => ?_) (fun j_1 h hjj_1 => ?_)
    · skip
      cases h
      exact hQ _ _ dX1_joined_119
    · skip
      refine ii_lcmp_eq (tgt := 118) h dX1_joined_104 dX1_joined_105 (by decide) (fun h => ?_) (fun h => ?_)
      · skip
        refine ii_lconst dX1_joined_118 kl0 ?_
        refine ii_lv [] rfl ?_
        cases h
        exact hjj_1
      · skip
        refine ii_lload_n 2 dX1_joined_108 rfl ?_
        refine ii_lconst dX1_joined_109 kl0 ?_
        refine ii_lcmp_eq (tgt := 118) h dX1_joined_110 dX1_joined_111 (by decide) (fun h => ?_) (fun h => ?_)
        · skip
          refine ii_lconst dX1_joined_118 kl0 ?_
          refine ii_lv [] rfl ?_
          cases h
          exact hjj_1
        · skip
          refine ii_lconst dX1_joined_114 kl1 ?_
          refine ii_goto (tgt := 119) dX1_joined_115 (by decide) ?_
          refine ii_lv [] rfl ?_
          cases h
          exact hjj_1
  refine ii_sw h (fun hq42 h => ?_) (fun hq42 h => ?_)
  · skip
    refine ii_lookup (tgt := 164) (off := 163) dX1_joined_1 rfl (by rw [hq42] <;> decide) (by decide) ?_
    refine ii_lload_n 1 dX1_joined_164 rfl ?_
    refine ii_lload_n 2 dX1_joined_165 rfl ?_
    refine ii_lmul dX1_joined_166 ?_
    cases h
    exact hQ _ _ dX1_joined_167
  refine ii_sw h (fun hq43 h => ?_) (fun hq43 h => ?_)
  · skip
    refine ii_lookup (tgt := 156) (off := 155) dX1_joined_1 rfl (by rw [hq43] <;> decide) (by decide) ?_
    refine ii_lload_n 1 dX1_joined_156 rfl ?_
    refine ii_lload_n 2 dX1_joined_157 rfl ?_
    refine ii_ladd dX1_joined_158 ?_
    cases h
    exact hQ _ _ dX1_joined_159
  refine ii_sw h (fun hq45 h => ?_) (fun hq45 h => ?_)
  · skip
    refine ii_lookup (tgt := 160) (off := 159) dX1_joined_1 rfl (by rw [hq45] <;> decide) (by decide) ?_
    refine ii_lload_n 1 dX1_joined_160 rfl ?_
    refine ii_lload_n 2 dX1_joined_161 rfl ?_
    refine ii_lsub dX1_joined_162 ?_
    cases h
    exact hQ _ _ dX1_joined_163
  refine ii_sw h (fun hq47 h => ?_) (fun hq47 h => ?_)
  · skip
    refine ii_lookup (tgt := 168) (off := 167) dX1_joined_1 rfl (by rw [hq47] <;> decide) (by decide) ?_
    refine ii_lload_n 2 dX1_joined_168 rfl ?_
    refine ii_lconst dX1_joined_169 kl0 ?_
    refine ii_jn h (fun j_2 => []) (fun j_2 => []) 181 (fun j_2 => [.long j_2]) (fun j_2 h => ?_) (fun j_2 h hjj_2 => ?_)
    · skip
      cases h
      exact hQ _ _ dX1_joined_181
    · skip
      refine ii_lcmp_ne (tgt := 178) h dX1_joined_170 dX1_joined_171 (by decide) (fun h => ?_) (fun h => ?_)
      · skip
        refine ii_lload_n 1 dX1_joined_178 rfl ?_
        refine ii_lload_n 2 dX1_joined_179 rfl ?_
        refine ii_ldiv h dX1_joined_180 (fun t_3 h => ?_)
        refine ii_lv [] rfl ?_
        cases h
        exact hjj_2
      · skip
        refine ii_lconst dX1_joined_174 kl0 ?_
        refine ii_goto (tgt := 181) dX1_joined_175 (by decide) ?_
        refine ii_lv [] rfl ?_
        cases h
        exact hjj_2
  refine ii_sw h (fun hq60 h => ?_) (fun hq60 h => ?_)
  · skip
    refine ii_lookup (tgt := 120) (off := 119) dX1_joined_1 rfl (by rw [hq60] <;> decide) (by decide) ?_
    refine ii_lload_n 1 dX1_joined_120 rfl ?_
    refine ii_lload_n 2 dX1_joined_121 rfl ?_
    refine ii_jn h (fun j_4 => []) (fun j_4 => []) 131 (fun j_4 => [.long j_4]) (fun j_4 h => ?_) (fun j_4 h hjj_4 => ?_)
    · skip
      cases h
      exact hQ _ _ dX1_joined_131
    · skip
      refine ii_lcmp_ge (tgt := 130) h dX1_joined_122 dX1_joined_123 (by decide) (fun h => ?_) (fun h => ?_)
      · skip
        refine ii_lconst dX1_joined_130 kl0 ?_
        refine ii_lv [] rfl ?_
        cases h
        exact hjj_4
      · skip
        refine ii_lconst dX1_joined_126 kl1 ?_
        refine ii_goto (tgt := 131) dX1_joined_127 (by decide) ?_
        refine ii_lv [] rfl ?_
        cases h
        exact hjj_4
  refine ii_sw h (fun hq61 h => ?_) (fun hq61 h => ?_)
  · skip
    refine ii_lookup (tgt := 144) (off := 143) dX1_joined_1 rfl (by rw [hq61] <;> decide) (by decide) ?_
    refine ii_lload_n 1 dX1_joined_144 rfl ?_
    refine ii_lload_n 2 dX1_joined_145 rfl ?_
    refine ii_jn h (fun j_5 => []) (fun j_5 => []) 155 (fun j_5 => [.long j_5]) (fun j_5 h => ?_) (fun j_5 h hjj_5 => ?_)
    · skip
      cases h
      exact hQ _ _ dX1_joined_155
    · skip
      refine ii_lcmp_ne (tgt := 154) h dX1_joined_146 dX1_joined_147 (by decide) (fun h => ?_) (fun h => ?_)
      · skip
        refine ii_lconst dX1_joined_154 kl0 ?_
        refine ii_lv [] rfl ?_
        cases h
        exact hjj_5
      · skip
        refine ii_lconst dX1_joined_150 kl1 ?_
        refine ii_goto (tgt := 155) dX1_joined_151 (by decide) ?_
        refine ii_lv [] rfl ?_
        cases h
        exact hjj_5
  refine ii_sw h (fun hq62 h => ?_) (fun hq62 h => ?_)
  · skip
    refine ii_lookup (tgt := 132) (off := 131) dX1_joined_1 rfl (by rw [hq62] <;> decide) (by decide) ?_
    refine ii_lload_n 1 dX1_joined_132 rfl ?_
    refine ii_lload_n 2 dX1_joined_133 rfl ?_
    refine ii_jn h (fun j_6 => []) (fun j_6 => []) 143 (fun j_6 => [.long j_6]) (fun j_6 h => ?_) (fun j_6 h hjj_6 => ?_)
    · skip
      cases h
      exact hQ _ _ dX1_joined_143
    · skip
      refine ii_lcmp_le (tgt := 142) h dX1_joined_134 dX1_joined_135 (by decide) (fun h => ?_) (fun h => ?_)
      · skip
        refine ii_lconst dX1_joined_142 kl0 ?_
        refine ii_lv [] rfl ?_
        cases h
        exact hjj_6
      · skip
        refine ii_lconst dX1_joined_138 kl1 ?_
        refine ii_goto (tgt := 143) dX1_joined_139 (by decide) ?_
        refine ii_lv [] rfl ?_
        cases h
        exact hjj_6
  refine ii_sw h (fun hq124 h => ?_) (fun hq124 h => ?_)
  · skip
    refine ii_lookup (tgt := 84) (off := 83) dX1_joined_1 rfl (by rw [hq124] <;> decide) (by decide) ?_
    refine ii_lload_n 1 dX1_joined_84 rfl ?_
    refine ii_lconst dX1_joined_85 kl0 ?_
    refine ii_jn h (fun j_7 => []) (fun j_7 => []) 101 (fun j_7 => [.long j_7]) (fun j_7 h => ?_) (fun j_7 h hjj_7 => ?_)
    · skip
      cases h
      exact hQ _ _ dX1_joined_101
    · skip
      refine ii_lcmp_ne (tgt := 96) h dX1_joined_86 dX1_joined_87 (by decide) (fun h => ?_) (fun h => ?_)
      · skip
        refine ii_lconst dX1_joined_96 kl1 ?_
        refine ii_goto (tgt := 101) dX1_joined_97 (by decide) ?_
        refine ii_lv [] rfl ?_
        cases h
        exact hjj_7
      · skip
        refine ii_lload_n 2 dX1_joined_90 rfl ?_
        refine ii_lconst dX1_joined_91 kl0 ?_
        refine ii_lcmp_eq (tgt := 100) h dX1_joined_92 dX1_joined_93 (by decide) (fun h => ?_) (fun h => ?_)
        · skip
          refine ii_lconst dX1_joined_100 kl0 ?_
          refine ii_lv [] rfl ?_
          cases h
          exact hjj_7
        · skip
          refine ii_lconst dX1_joined_96 kl1 ?_
          refine ii_goto (tgt := 101) dX1_joined_97 (by decide) ?_
          refine ii_lv [] rfl ?_
          cases h
          exact hjj_7
  refine ii_lookup (tgt := 182) (off := 181) dX1_joined_1 rfl (by show Op.lookupswitch.offset [(38, 101), (42, 163), (43, 155), (45, 159), (47, 167), (60, 119), (61, 143), (62, 131), (124, 83)] _ _ = _; rw [lv_osw hq38 (a := 38) (by rfl), lv_osw hq42 (a := 42) (by rfl), lv_osw hq43 (a := 43) (by rfl), lv_osw hq45 (a := 45) (by rfl), lv_osw hq47 (a := 47) (by rfl), lv_osw hq60 (a := 60) (by rfl), lv_osw hq61 (a := 61) (by rfl), lv_osw hq62 (a := 62) (by rfl), lv_osw hq124 (a := 124) (by rfl)] <;> rfl) (by decide) ?_
  refine ii_lconst dX1_joined_182 kl0 ?_
  cases h
  exact hQ _ _ dX1_joined_183
set_option maxHeartbeats 4000000 in
set_option maxRecDepth 100000 in
theorem c_X1_work (l : Launch) (D : va_G) (cI cJ cZ cH : ClassId) (a_this a_this_house a_this_stack : Nat) (v_this_about : Int64) (v_this_gate : Int32) (v_this_height : Int32) (v_this_kin : Int32) (v_this_season : Int32) (v_this_stack : Nat → Int64) (v_this_town : Int32) (p0 : Int32) {res : Int32 × (Nat → Int64)} (h : F_X1_work v_this_about v_this_gate v_this_height v_this_kin v_this_season v_this_stack v_this_town p0 = some res) : CTv l yX1_work wzX1_work { frames := 1, cells := 0, slots := 0, locals := 24 } D [(cI, .int), (cJ, .long), (cZ, .boolean), (cH, .object "TinHouse$House")] [.ref a_this, .int p0] [(a_this, .inr (1, [.ref a_this_house, .ref a_this_stack, .int v_this_height, .int v_this_gate, .int v_this_kin, .int v_this_town, .int v_this_season, .long v_this_about])), (a_this_stack, .inl (cJ, 50, .inr (.inl v_this_stack)))] [(a_this, .inr (1, [.ref a_this_house, .ref a_this_stack, .int res.1, .int v_this_gate, .int v_this_kin, .int v_this_town, .int v_this_season, .long v_this_about])), (a_this_stack, .inl (cJ, 50, .inr (.inl res.2)))] := by
  unfold F_X1_work at h
  refine ii_metV (own := RX1) (lv0 := [(0, .ref a_this), (1, .int p0)]) (by decide) rfl rfl rfl (Nat.le_of_ble_eq_true rfl) (fun {p e s m args below meth c A Q} hQ => ?_)
  refine ii_iload_n 1 dX1_work_0 rfl ?_
  refine ii_if_lt (tgt := 11) h dX1_work_1 (by decide) (fun h => ?_) (fun h => ?_)
  · skip
    refine ii_iload_n 1 dX1_work_11 rfl ?_
    refine ii_ineg dX1_work_12 ?_
    refine ii_jn h (fun j_1 => [(a_this, .inr (1, [.ref a_this_house, .ref a_this_stack, .int j_1.1, .int v_this_gate, .int v_this_kin, .int v_this_town, .int v_this_season, .long v_this_about])), (a_this_stack, .inl (cJ, 50, .inr (.inl j_1.2)))]) (fun j_1 => []) 234 (fun j_1 => []) (fun j_1 h => ?_) (fun j_1 h hjj_1 => ?_)
    · skip
      cases h
      exact hQ _ _ dX1_work_234
    · skip
      refine ii_sw h (fun hq33 h => ?_) (fun hq33 h => ?_)
      · skip
        refine ii_lookup (tgt := 147) (off := 134) dX1_work_13 rfl (by rw [hq33] <;> decide) (by decide) ?_
        refine ii_aload_n 0 dX1_work_147 rfl ?_
        refine ii_aload_n 0 dX1_work_148 rfl ?_
        obtain ⟨c_2, hc_2, h⟩ := bnd h
        refine ii_callVl (As := []) (ws' := [(a_this, .inr (1, [.ref a_this_house, .ref a_this_stack, .int c_2.2, .int v_this_gate, .int v_this_kin, .int v_this_town, .int v_this_season, .long v_this_about])), (a_this_stack, .inl (cJ, 50, .inr (.inl v_this_stack)))]) (st := [.ref a_this]) (c_X1_pop l D cI cJ cZ cH a_this a_this_house a_this_stack v_this_about v_this_gate v_this_height v_this_kin v_this_season v_this_stack v_this_town hc_2) gzX1_106 rfl rfl rfl eV_X1_pop ⟨Nat.le_of_ble_eq_true rfl, Nat.le_of_ble_eq_true rfl⟩ rfl 0 rfl rfl [0, 1] rfl rfl rfl rfl rfl (Nat.le_of_ble_eq_true rfl) (Nat.le_refl _) (Nat.le_refl _) rfl dX1_work_149 ?_
        refine ii_lconst dX1_work_152 kl0 ?_
        refine ii_jn h (fun j_3 => [(a_this, .inr (1, [.ref a_this_house, .ref a_this_stack, .int c_2.2, .int v_this_gate, .int v_this_kin, .int v_this_town, .int v_this_season, .long v_this_about])), (a_this_stack, .inl (cJ, 50, .inr (.inl v_this_stack)))]) (fun j_3 => []) 162 (fun j_3 => [.long j_3, .ref a_this]) (fun j_3 h => ?_) (fun j_3 h hjj_3 => ?_)
        · skip
          obtain ⟨c_4, hc_4, h⟩ := bnd h
          refine ii_callVv (As := [.long j_3]) (ws' := [(a_this, .inr (1, [.ref a_this_house, .ref a_this_stack, .int c_4.1, .int v_this_gate, .int v_this_kin, .int v_this_town, .int v_this_season, .long v_this_about])), (a_this_stack, .inl (cJ, 50, .inr (.inl c_4.2)))]) (st := []) (c_X1_push l D cI cJ cZ cH a_this a_this_house a_this_stack v_this_about v_this_gate c_2.2 v_this_kin v_this_season v_this_stack v_this_town j_3 hc_4) gzX1_110 rfl rfl rfl eV_X1_push ⟨Nat.le_of_ble_eq_true rfl, Nat.le_of_ble_eq_true rfl⟩ rfl 0 rfl rfl [0, 1] rfl rfl rfl rfl rfl (Nat.le_of_ble_eq_true rfl) (Nat.le_refl _) (Nat.le_refl _) rfl dX1_work_162 ?_
          refine ii_goto (tgt := 234) dX1_work_165 (by decide) ?_
          cases h
          exact hjj_1
        · skip
          refine ii_lcmp_ne (tgt := 161) h dX1_work_153 dX1_work_154 (by decide) (fun h => ?_) (fun h => ?_)
          · skip
            refine ii_lconst dX1_work_161 kl0 ?_
            refine ii_lv [] rfl ?_
            cases h
            exact hjj_3
          · skip
            refine ii_lconst dX1_work_157 kl1 ?_
            refine ii_goto (tgt := 162) dX1_work_158 (by decide) ?_
            refine ii_lv [] rfl ?_
            cases h
            exact hjj_3
      refine ii_sw h (fun hq63 h => ?_) (fun hq63 h => ?_)
      · skip
        refine ii_lookup (tgt := 180) (off := 167) dX1_work_13 rfl (by rw [hq63] <;> decide) (by decide) ?_
        refine ii_aload_n 0 dX1_work_180 rfl ?_
        obtain ⟨c_5, hc_5, h⟩ := bnd h
        refine ii_callVl (As := []) (ws' := [(a_this, .inr (1, [.ref a_this_house, .ref a_this_stack, .int c_5.2, .int v_this_gate, .int v_this_kin, .int v_this_town, .int v_this_season, .long v_this_about])), (a_this_stack, .inl (cJ, 50, .inr (.inl v_this_stack)))]) (st := []) (c_X1_pop l D cI cJ cZ cH a_this a_this_house a_this_stack v_this_about v_this_gate v_this_height v_this_kin v_this_season v_this_stack v_this_town hc_5) gzX1_106 rfl rfl rfl eV_X1_pop ⟨Nat.le_of_ble_eq_true rfl, Nat.le_of_ble_eq_true rfl⟩ rfl 0 rfl rfl [0, 1] rfl rfl rfl rfl rfl (Nat.le_of_ble_eq_true rfl) (Nat.le_refl _) (Nat.le_refl _) rfl dX1_work_181 ?_
        refine ii_lstore_n (lv' := [(2, .long c_5.1), (0, .ref a_this), (1, .int p0)]) dX1_work_184 rfl (by decide) rfl ?_
        refine ii_aload_n 1 dX1_work_185 rfl ?_
        obtain ⟨c_6, hc_6, h⟩ := bnd h
        refine ii_callVl (As := []) (ws' := [(a_this, .inr (1, [.ref a_this_house, .ref a_this_stack, .int c_6.2, .int v_this_gate, .int v_this_kin, .int v_this_town, .int v_this_season, .long v_this_about])), (a_this_stack, .inl (cJ, 50, .inr (.inl v_this_stack)))]) (st := []) (c_X1_pop l D cI cJ cZ cH a_this a_this_house a_this_stack v_this_about v_this_gate c_5.2 v_this_kin v_this_season v_this_stack v_this_town hc_6) gzX1_106 rfl rfl rfl eV_X1_pop ⟨Nat.le_of_ble_eq_true rfl, Nat.le_of_ble_eq_true rfl⟩ rfl 0 rfl rfl [0, 1] rfl rfl rfl rfl rfl (Nat.le_of_ble_eq_true rfl) (Nat.le_refl _) (Nat.le_refl _) rfl dX1_work_186 ?_
        refine ii_lstore (lv' := [(4, .long c_6.1), (2, .long c_5.1), (0, .ref a_this), (1, .int p0)]) dX1_work_189 (by decide) rfl ?_
        refine ii_aload_n 2 dX1_work_191 rfl ?_
        refine ii_aload_n 2 dX1_work_192 rfl ?_
        obtain ⟨c_7, hc_7, h⟩ := bnd h
        refine ii_callVl (As := []) (ws' := [(a_this, .inr (1, [.ref a_this_house, .ref a_this_stack, .int c_7.2, .int v_this_gate, .int v_this_kin, .int v_this_town, .int v_this_season, .long v_this_about])), (a_this_stack, .inl (cJ, 50, .inr (.inl v_this_stack)))]) (st := [.ref a_this]) (c_X1_pop l D cI cJ cZ cH a_this a_this_house a_this_stack v_this_about v_this_gate c_6.2 v_this_kin v_this_season v_this_stack v_this_town hc_7) gzX1_106 rfl rfl rfl eV_X1_pop ⟨Nat.le_of_ble_eq_true rfl, Nat.le_of_ble_eq_true rfl⟩ rfl 0 rfl rfl [0, 1] rfl rfl rfl rfl rfl (Nat.le_of_ble_eq_true rfl) (Nat.le_refl _) (Nat.le_refl _) rfl dX1_work_193 ?_
        refine ii_lconst dX1_work_196 kl0 ?_
        refine ii_jn h (fun j_8 => [(a_this, .inr (1, [.ref a_this_house, .ref a_this_stack, .int c_7.2, .int v_this_gate, .int v_this_kin, .int v_this_town, .int v_this_season, .long v_this_about])), (a_this_stack, .inl (cJ, 50, .inr (.inl v_this_stack)))]) (fun j_8 => []) 207 (fun j_8 => [.long j_8, .ref a_this]) (fun j_8 h => ?_) (fun j_8 h hjj_8 => ?_)
        · skip
          obtain ⟨c_9, hc_9, h⟩ := bnd h
          refine ii_callVv (As := [.long j_8]) (ws' := [(a_this, .inr (1, [.ref a_this_house, .ref a_this_stack, .int c_9.1, .int v_this_gate, .int v_this_kin, .int v_this_town, .int v_this_season, .long v_this_about])), (a_this_stack, .inl (cJ, 50, .inr (.inl c_9.2)))]) (st := []) (c_X1_push l D cI cJ cZ cH a_this a_this_house a_this_stack v_this_about v_this_gate c_7.2 v_this_kin v_this_season v_this_stack v_this_town j_8 hc_9) gzX1_110 rfl rfl rfl eV_X1_push ⟨Nat.le_of_ble_eq_true rfl, Nat.le_of_ble_eq_true rfl⟩ rfl 0 rfl rfl [0, 1] rfl rfl rfl rfl rfl (Nat.le_of_ble_eq_true rfl) (Nat.le_refl _) (Nat.le_refl _) rfl dX1_work_207 ?_
          refine ii_goto (tgt := 234) dX1_work_210 (by decide) ?_
          cases h
          exact hjj_1
        · skip
          refine ii_lcmp_eq (tgt := 206) h dX1_work_197 dX1_work_198 (by decide) (fun h => ?_) (fun h => ?_)
          · skip
            refine ii_lload_n 1 dX1_work_206 rfl ?_
            refine ii_lv [] rfl ?_
            cases h
            exact hjj_8
          · skip
            refine ii_lload 0 dX1_work_201 rfl ?_
            refine ii_goto (tgt := 207) dX1_work_203 (by decide) ?_
            refine ii_lv [] rfl ?_
            cases h
            exact hjj_8
      refine ii_sw h (fun hq103 h => ?_) (fun hq103 h => ?_)
      · skip
        refine ii_lookup (tgt := 88) (off := 75) dX1_work_13 rfl (by rw [hq103] <;> decide) (by decide) ?_
        refine ii_aload_n 0 dX1_work_88 rfl ?_
        refine ii_aload_n 0 dX1_work_89 rfl ?_
        refine ii_get (C := RX1) (T := TX1) (N := 8) (ci := 1) izX1 0 rfl rfl 3 (by decide) kX1_83 rfl dX1_work_90 ?_
        refine ii_i2l dX1_work_93 ?_
        obtain ⟨c_10, hc_10, h⟩ := bnd h
        refine ii_callVv (As := [.long v_this_gate.toInt64]) (ws' := [(a_this, .inr (1, [.ref a_this_house, .ref a_this_stack, .int c_10.1, .int v_this_gate, .int v_this_kin, .int v_this_town, .int v_this_season, .long v_this_about])), (a_this_stack, .inl (cJ, 50, .inr (.inl c_10.2)))]) (st := []) (c_X1_push l D cI cJ cZ cH a_this a_this_house a_this_stack v_this_about v_this_gate v_this_height v_this_kin v_this_season v_this_stack v_this_town v_this_gate.toInt64 hc_10) gzX1_110 rfl rfl rfl eV_X1_push ⟨Nat.le_of_ble_eq_true rfl, Nat.le_of_ble_eq_true rfl⟩ rfl 0 rfl rfl [0, 1] rfl rfl rfl rfl rfl (Nat.le_of_ble_eq_true rfl) (Nat.le_refl _) (Nat.le_refl _) rfl dX1_work_94 ?_
        refine ii_goto (tgt := 234) dX1_work_97 (by decide) ?_
        refine ii_lv [] rfl ?_
        cases h
        exact hjj_1
      refine ii_sw h (fun hq107 h => ?_) (fun hq107 h => ?_)
      · skip
        refine ii_lookup (tgt := 100) (off := 87) dX1_work_13 rfl (by rw [hq107] <;> decide) (by decide) ?_
        refine ii_aload_n 0 dX1_work_100 rfl ?_
        refine ii_aload_n 0 dX1_work_101 rfl ?_
        refine ii_get (C := RX1) (T := TX1) (N := 8) (ci := 1) izX1 0 rfl rfl 4 (by decide) kX1_86 rfl dX1_work_102 ?_
        refine ii_i2l dX1_work_105 ?_
        obtain ⟨c_11, hc_11, h⟩ := bnd h
        refine ii_callVv (As := [.long v_this_kin.toInt64]) (ws' := [(a_this, .inr (1, [.ref a_this_house, .ref a_this_stack, .int c_11.1, .int v_this_gate, .int v_this_kin, .int v_this_town, .int v_this_season, .long v_this_about])), (a_this_stack, .inl (cJ, 50, .inr (.inl c_11.2)))]) (st := []) (c_X1_push l D cI cJ cZ cH a_this a_this_house a_this_stack v_this_about v_this_gate v_this_height v_this_kin v_this_season v_this_stack v_this_town v_this_kin.toInt64 hc_11) gzX1_110 rfl rfl rfl eV_X1_push ⟨Nat.le_of_ble_eq_true rfl, Nat.le_of_ble_eq_true rfl⟩ rfl 0 rfl rfl [0, 1] rfl rfl rfl rfl rfl (Nat.le_of_ble_eq_true rfl) (Nat.le_refl _) (Nat.le_refl _) rfl dX1_work_106 ?_
        refine ii_goto (tgt := 234) dX1_work_109 (by decide) ?_
        refine ii_lv [] rfl ?_
        cases h
        exact hjj_1
      refine ii_sw h (fun hq115 h => ?_) (fun hq115 h => ?_)
      · skip
        refine ii_lookup (tgt := 124) (off := 111) dX1_work_13 rfl (by rw [hq115] <;> decide) (by decide) ?_
        refine ii_aload_n 0 dX1_work_124 rfl ?_
        refine ii_aload_n 0 dX1_work_125 rfl ?_
        refine ii_get (C := RX1) (T := TX1) (N := 8) (ci := 1) izX1 0 rfl rfl 6 (by decide) kX1_92 rfl dX1_work_126 ?_
        refine ii_i2l dX1_work_129 ?_
        obtain ⟨c_12, hc_12, h⟩ := bnd h
        refine ii_callVv (As := [.long v_this_season.toInt64]) (ws' := [(a_this, .inr (1, [.ref a_this_house, .ref a_this_stack, .int c_12.1, .int v_this_gate, .int v_this_kin, .int v_this_town, .int v_this_season, .long v_this_about])), (a_this_stack, .inl (cJ, 50, .inr (.inl c_12.2)))]) (st := []) (c_X1_push l D cI cJ cZ cH a_this a_this_house a_this_stack v_this_about v_this_gate v_this_height v_this_kin v_this_season v_this_stack v_this_town v_this_season.toInt64 hc_12) gzX1_110 rfl rfl rfl eV_X1_push ⟨Nat.le_of_ble_eq_true rfl, Nat.le_of_ble_eq_true rfl⟩ rfl 0 rfl rfl [0, 1] rfl rfl rfl rfl rfl (Nat.le_of_ble_eq_true rfl) (Nat.le_refl _) (Nat.le_refl _) rfl dX1_work_130 ?_
        refine ii_goto (tgt := 234) dX1_work_133 (by decide) ?_
        refine ii_lv [] rfl ?_
        cases h
        exact hjj_1
      refine ii_sw h (fun hq116 h => ?_) (fun hq116 h => ?_)
      · skip
        refine ii_lookup (tgt := 112) (off := 99) dX1_work_13 rfl (by rw [hq116] <;> decide) (by decide) ?_
        refine ii_aload_n 0 dX1_work_112 rfl ?_
        refine ii_aload_n 0 dX1_work_113 rfl ?_
        refine ii_get (C := RX1) (T := TX1) (N := 8) (ci := 1) izX1 0 rfl rfl 5 (by decide) kX1_89 rfl dX1_work_114 ?_
        refine ii_i2l dX1_work_117 ?_
        obtain ⟨c_13, hc_13, h⟩ := bnd h
        refine ii_callVv (As := [.long v_this_town.toInt64]) (ws' := [(a_this, .inr (1, [.ref a_this_house, .ref a_this_stack, .int c_13.1, .int v_this_gate, .int v_this_kin, .int v_this_town, .int v_this_season, .long v_this_about])), (a_this_stack, .inl (cJ, 50, .inr (.inl c_13.2)))]) (st := []) (c_X1_push l D cI cJ cZ cH a_this a_this_house a_this_stack v_this_about v_this_gate v_this_height v_this_kin v_this_season v_this_stack v_this_town v_this_town.toInt64 hc_13) gzX1_110 rfl rfl rfl eV_X1_push ⟨Nat.le_of_ble_eq_true rfl, Nat.le_of_ble_eq_true rfl⟩ rfl 0 rfl rfl [0, 1] rfl rfl rfl rfl rfl (Nat.le_of_ble_eq_true rfl) (Nat.le_refl _) (Nat.le_refl _) rfl dX1_work_118 ?_
        refine ii_goto (tgt := 234) dX1_work_121 (by decide) ?_
        refine ii_lv [] rfl ?_
        cases h
        exact hjj_1
      refine ii_sw h (fun hq119 h => ?_) (fun hq119 h => ?_)
      · skip
        refine ii_lookup (tgt := 136) (off := 123) dX1_work_13 rfl (by rw [hq119] <;> decide) (by decide) ?_
        refine ii_aload_n 0 dX1_work_136 rfl ?_
        refine ii_aload_n 0 dX1_work_137 rfl ?_
        refine ii_get (C := RX1) (T := TX1) (N := 8) (ci := 1) izX1 0 rfl rfl 7 (by decide) kX1_95 rfl dX1_work_138 ?_
        obtain ⟨c_14, hc_14, h⟩ := bnd h
        refine ii_callVv (As := [.long v_this_about]) (ws' := [(a_this, .inr (1, [.ref a_this_house, .ref a_this_stack, .int c_14.1, .int v_this_gate, .int v_this_kin, .int v_this_town, .int v_this_season, .long v_this_about])), (a_this_stack, .inl (cJ, 50, .inr (.inl c_14.2)))]) (st := []) (c_X1_push l D cI cJ cZ cH a_this a_this_house a_this_stack v_this_about v_this_gate v_this_height v_this_kin v_this_season v_this_stack v_this_town v_this_about hc_14) gzX1_110 rfl rfl rfl eV_X1_push ⟨Nat.le_of_ble_eq_true rfl, Nat.le_of_ble_eq_true rfl⟩ rfl 0 rfl rfl [0, 1] rfl rfl rfl rfl rfl (Nat.le_of_ble_eq_true rfl) (Nat.le_refl _) (Nat.le_refl _) rfl dX1_work_141 ?_
        refine ii_goto (tgt := 234) dX1_work_144 (by decide) ?_
        refine ii_lv [] rfl ?_
        cases h
        exact hjj_1
      refine ii_sw h (fun hq126 h => ?_) (fun hq126 h => ?_)
      · skip
        refine ii_lookup (tgt := 168) (off := 155) dX1_work_13 rfl (by rw [hq126] <;> decide) (by decide) ?_
        refine ii_aload_n 0 dX1_work_168 rfl ?_
        refine ii_aload_n 0 dX1_work_169 rfl ?_
        obtain ⟨c_15, hc_15, h⟩ := bnd h
        refine ii_callVl (As := []) (ws' := [(a_this, .inr (1, [.ref a_this_house, .ref a_this_stack, .int c_15.2, .int v_this_gate, .int v_this_kin, .int v_this_town, .int v_this_season, .long v_this_about])), (a_this_stack, .inl (cJ, 50, .inr (.inl v_this_stack)))]) (st := [.ref a_this]) (c_X1_pop l D cI cJ cZ cH a_this a_this_house a_this_stack v_this_about v_this_gate v_this_height v_this_kin v_this_season v_this_stack v_this_town hc_15) gzX1_106 rfl rfl rfl eV_X1_pop ⟨Nat.le_of_ble_eq_true rfl, Nat.le_of_ble_eq_true rfl⟩ rfl 0 rfl rfl [0, 1] rfl rfl rfl rfl rfl (Nat.le_of_ble_eq_true rfl) (Nat.le_refl _) (Nat.le_refl _) rfl dX1_work_170 ?_
        refine ii_lneg dX1_work_173 ?_
        obtain ⟨c_16, hc_16, h⟩ := bnd h
        refine ii_callVv (As := [.long (-c_15.1)]) (ws' := [(a_this, .inr (1, [.ref a_this_house, .ref a_this_stack, .int c_16.1, .int v_this_gate, .int v_this_kin, .int v_this_town, .int v_this_season, .long v_this_about])), (a_this_stack, .inl (cJ, 50, .inr (.inl c_16.2)))]) (st := []) (c_X1_push l D cI cJ cZ cH a_this a_this_house a_this_stack v_this_about v_this_gate c_15.2 v_this_kin v_this_season v_this_stack v_this_town (-c_15.1) hc_16) gzX1_110 rfl rfl rfl eV_X1_push ⟨Nat.le_of_ble_eq_true rfl, Nat.le_of_ble_eq_true rfl⟩ rfl 0 rfl rfl [0, 1] rfl rfl rfl rfl rfl (Nat.le_of_ble_eq_true rfl) (Nat.le_refl _) (Nat.le_refl _) rfl dX1_work_174 ?_
        refine ii_goto (tgt := 234) dX1_work_177 (by decide) ?_
        refine ii_lv [] rfl ?_
        cases h
        exact hjj_1
      refine ii_lookup (tgt := 213) (off := 200) dX1_work_13 rfl (by show Op.lookupswitch.offset [(33, 134), (63, 167), (103, 75), (107, 87), (115, 111), (116, 99), (119, 123), (126, 155)] _ _ = _; rw [lv_osw hq33 (a := 33) (by rfl), lv_osw hq63 (a := 63) (by rfl), lv_osw hq103 (a := 103) (by rfl), lv_osw hq107 (a := 107) (by rfl), lv_osw hq115 (a := 115) (by rfl), lv_osw hq116 (a := 116) (by rfl), lv_osw hq119 (a := 119) (by rfl), lv_osw hq126 (a := 126) (by rfl)] <;> rfl) (by decide) ?_
      refine ii_aload_n 0 dX1_work_213 rfl ?_
      obtain ⟨c_17, hc_17, h⟩ := bnd h
      refine ii_callVl (As := []) (ws' := [(a_this, .inr (1, [.ref a_this_house, .ref a_this_stack, .int c_17.2, .int v_this_gate, .int v_this_kin, .int v_this_town, .int v_this_season, .long v_this_about])), (a_this_stack, .inl (cJ, 50, .inr (.inl v_this_stack)))]) (st := []) (c_X1_pop l D cI cJ cZ cH a_this a_this_house a_this_stack v_this_about v_this_gate v_this_height v_this_kin v_this_season v_this_stack v_this_town hc_17) gzX1_106 rfl rfl rfl eV_X1_pop ⟨Nat.le_of_ble_eq_true rfl, Nat.le_of_ble_eq_true rfl⟩ rfl 0 rfl rfl [0, 1] rfl rfl rfl rfl rfl (Nat.le_of_ble_eq_true rfl) (Nat.le_refl _) (Nat.le_refl _) rfl dX1_work_214 ?_
      refine ii_lstore (lv' := [(6, .long c_17.1), (0, .ref a_this), (1, .int p0)]) dX1_work_217 (by decide) rfl ?_
      refine ii_aload_n 1 dX1_work_219 rfl ?_
      refine ii_iload_n 2 dX1_work_220 rfl ?_
      refine ii_ineg dX1_work_221 ?_
      refine ii_aload_n 1 dX1_work_222 rfl ?_
      obtain ⟨c_18, hc_18, h⟩ := bnd h
      refine ii_callVl (As := []) (ws' := [(a_this, .inr (1, [.ref a_this_house, .ref a_this_stack, .int c_18.2, .int v_this_gate, .int v_this_kin, .int v_this_town, .int v_this_season, .long v_this_about])), (a_this_stack, .inl (cJ, 50, .inr (.inl v_this_stack)))]) (st := [.int (-p0), .ref a_this]) (c_X1_pop l D cI cJ cZ cH a_this a_this_house a_this_stack v_this_about v_this_gate c_17.2 v_this_kin v_this_season v_this_stack v_this_town hc_18) gzX1_106 rfl rfl rfl eV_X1_pop ⟨Nat.le_of_ble_eq_true rfl, Nat.le_of_ble_eq_true rfl⟩ rfl 0 rfl rfl [0, 1] rfl rfl rfl rfl rfl (Nat.le_of_ble_eq_true rfl) (Nat.le_refl _) (Nat.le_refl _) rfl dX1_work_223 ?_
      refine ii_lload 0 dX1_work_226 rfl ?_
      obtain ⟨c_19, hc_19, h⟩ := bnd h
      refine ii_callSl (As := [.int (-p0), .long c_18.1, .long c_17.1]) (ws' := [(a_this, .inr (1, [.ref a_this_house, .ref a_this_stack, .int c_18.2, .int v_this_gate, .int v_this_kin, .int v_this_town, .int v_this_season, .long v_this_about])), (a_this_stack, .inl (cJ, 50, .inr (.inl v_this_stack)))]) (st := [.ref a_this]) (c_X1_joined l D cI cJ cZ cH (-p0) c_18.1 c_17.1 hc_19) gzX1_114 rfl rfl rfl eS_X1_joined ⟨Nat.le_of_ble_eq_true rfl, Nat.le_of_ble_eq_true rfl⟩ rfl [] rfl rfl rfl rfl rfl (Nat.le_of_ble_eq_true rfl) (Nat.le_refl _) (Nat.le_refl _) rfl dX1_work_228 ?_
      obtain ⟨c_20, hc_20, h⟩ := bnd h
      refine ii_callVv (As := [.long c_19]) (ws' := [(a_this, .inr (1, [.ref a_this_house, .ref a_this_stack, .int c_20.1, .int v_this_gate, .int v_this_kin, .int v_this_town, .int v_this_season, .long v_this_about])), (a_this_stack, .inl (cJ, 50, .inr (.inl c_20.2)))]) (st := []) (c_X1_push l D cI cJ cZ cH a_this a_this_house a_this_stack v_this_about v_this_gate c_18.2 v_this_kin v_this_season v_this_stack v_this_town c_19 hc_20) gzX1_110 rfl rfl rfl eV_X1_push ⟨Nat.le_of_ble_eq_true rfl, Nat.le_of_ble_eq_true rfl⟩ rfl 0 rfl rfl [0, 1] rfl rfl rfl rfl rfl (Nat.le_of_ble_eq_true rfl) (Nat.le_refl _) (Nat.le_refl _) rfl dX1_work_231 ?_
      refine ii_lv [] rfl ?_
      cases h
      exact hjj_1
  · skip
    refine ii_aload_n 0 dX1_work_4 rfl ?_
    refine ii_iload_n 1 dX1_work_5 rfl ?_
    refine ii_i2l dX1_work_6 ?_
    obtain ⟨c_21, hc_21, h⟩ := bnd h
    refine ii_callVv (As := [.long p0.toInt64]) (ws' := [(a_this, .inr (1, [.ref a_this_house, .ref a_this_stack, .int c_21.1, .int v_this_gate, .int v_this_kin, .int v_this_town, .int v_this_season, .long v_this_about])), (a_this_stack, .inl (cJ, 50, .inr (.inl c_21.2)))]) (st := []) (c_X1_push l D cI cJ cZ cH a_this a_this_house a_this_stack v_this_about v_this_gate v_this_height v_this_kin v_this_season v_this_stack v_this_town p0.toInt64 hc_21) gzX1_110 rfl rfl rfl eV_X1_push ⟨Nat.le_of_ble_eq_true rfl, Nat.le_of_ble_eq_true rfl⟩ rfl 0 rfl rfl [0, 1] rfl rfl rfl rfl rfl (Nat.le_of_ble_eq_true rfl) (Nat.le_refl _) (Nat.le_refl _) rfl dX1_work_7 ?_
    cases h
    exact hQ _ _ dX1_work_10
set_option maxHeartbeats 4000000 in
set_option maxRecDepth 100000 in
theorem c_X1_run (l : Launch) (D : va_G) (cI cJ cZ cH : ClassId) (a_p0 a_this a_this_house a_this_stack : Nat) (n_p0 : Nat) (v_p0 : Nat → Int32) (v_this_about : Int64) (v_this_gate : Int32) (v_this_height : Int32) (v_this_kin : Int32) (v_this_season : Int32) (v_this_stack : Nat → Int64) (v_this_town : Int32) (p1 : Int32) (p2 : Int32) {res : Int64 × Int32 × (Nat → Int64)} (h : F_X1_run n_p0 v_p0 v_this_about v_this_gate v_this_height v_this_kin v_this_season v_this_stack v_this_town p1 p2 = some res) : CTl l yX1_run wzX1_run { frames := 2, cells := 0, slots := 0, locals := 51 } D [(cI, .int), (cJ, .long), (cZ, .boolean), (cH, .object "TinHouse$House")] [.ref a_this, .ref a_p0, .int p1, .int p2] [(a_p0, .inl (cI, n_p0, .inl v_p0)), (a_this, .inr (1, [.ref a_this_house, .ref a_this_stack, .int v_this_height, .int v_this_gate, .int v_this_kin, .int v_this_town, .int v_this_season, .long v_this_about])), (a_this_stack, .inl (cJ, 50, .inr (.inl v_this_stack)))] res.1 [(a_p0, .inl (cI, n_p0, .inl v_p0)), (a_this, .inr (1, [.ref a_this_house, .ref a_this_stack, .int res.2.1, .int v_this_gate, .int v_this_kin, .int v_this_town, .int v_this_season, .long v_this_about])), (a_this_stack, .inl (cJ, 50, .inr (.inl res.2.2)))] := by
  unfold F_X1_run at h
  refine ii_metL (own := RX1) (lv0 := [(0, .ref a_this), (1, .ref a_p0), (2, .int p1), (3, .int p2)]) (by decide) rfl rfl rfl (Nat.le_of_ble_eq_true rfl) (fun {p e s m args below meth c A Q} hQ => ?_)
  refine ii_aload_n 0 dX1_run_0 rfl ?_
  refine ii_iconst dX1_run_1 kc0 ?_
  refine ii_put (C := RX1) (T := TX1) (N := 8) (ci := 1) (ty0 := tyX1) (ws' := [(a_p0, .inl (cI, n_p0, .inl v_p0)), (a_this, .inr (1, [.ref a_this_house, .ref a_this_stack, .int (0 : Int32), .int v_this_gate, .int v_this_kin, .int v_this_town, .int v_this_season, .long v_this_about])), (a_this_stack, .inl (cJ, 50, .inr (.inl v_this_stack)))]) izX1 tyX1_ok nmX1 1 rfl rfl 2 (by decide) kX1_99 rfl rfl rfl (Nat.le_of_ble_eq_true rfl) dX1_run_2 rfl ?_
  refine ii_aload_n 1 dX1_run_5 rfl ?_
  refine ii_ifnonnull (tgt := 11) dX1_run_6 (by decide) ?_
  refine ii_iconst dX1_run_11 kc0 ?_
  refine ii_istore (lv' := [(4, .int (0 : Int32)), (0, .ref a_this), (1, .ref a_p0), (2, .int p1), (3, .int p2)]) dX1_run_12 (by decide) rfl ?_
  refine ii_lv [1, 2, 3, 4, 0] rfl ?_
  obtain ⟨x_2, hl_1, h⟩ := bnd h
  refine ii_loopX (fun s_1 => [(a_p0, .inl (cI, n_p0, .inl v_p0)), (a_this, .inr (1, [.ref a_this_house, .ref a_this_stack, .int s_1.2.1, .int v_this_gate, .int v_this_kin, .int v_this_town, .int v_this_season, .long v_this_about])), (a_this_stack, .inl (cJ, 50, .inr (.inl s_1.2.2)))]) (fun s_1 => [(0, .ref a_this), (1, .ref a_p0), (2, .int p1), (3, .int p2), (4, .int s_1.1)]) (fun x_2 => [(a_p0, .inl (cI, n_p0, .inl v_p0)), (a_this, .inr (1, [.ref a_this_house, .ref a_this_stack, .int x_2.2.1, .int v_this_gate, .int v_this_kin, .int v_this_town, .int v_this_season, .long v_this_about])), (a_this_stack, .inl (cJ, 50, .inr (.inl x_2.2.2)))]) (fun x_2 => [(0, .ref a_this)]) 52 hl_1 rfl rfl ?_ (fun s_1 o h hb_1 hr_1 hx_1 => ?_)
  · skip
    refine ii_aload_n 0 dX1_run_52 rfl ?_
    obtain ⟨c_8, hc_8, h⟩ := bnd h
    refine ii_callVl (As := []) (ws' := [(a_p0, .inl (cI, n_p0, .inl v_p0)), (a_this, .inr (1, [.ref a_this_house, .ref a_this_stack, .int c_8.2, .int v_this_gate, .int v_this_kin, .int v_this_town, .int v_this_season, .long v_this_about])), (a_this_stack, .inl (cJ, 50, .inr (.inl x_2.2.2)))]) (st := []) (c_X1_pop l D cI cJ cZ cH a_this a_this_house a_this_stack v_this_about v_this_gate x_2.2.1 v_this_kin v_this_season x_2.2.2 v_this_town hc_8) gzX1_106 rfl rfl rfl eV_X1_pop ⟨Nat.le_of_ble_eq_true rfl, Nat.le_of_ble_eq_true rfl⟩ rfl 1 rfl rfl [1, 2] rfl rfl rfl rfl rfl (Nat.le_of_ble_eq_true rfl) (Nat.le_refl _) (Nat.le_refl _) rfl dX1_run_53 ?_
    cases h
    exact hQ _ _ dX1_run_56
  · skip
    refine ii_iload 4 dX1_run_14 rfl ?_
    refine ii_iload_n 3 dX1_run_16 rfl ?_
    refine ii_icmp_ge (tgt := 52) h dX1_run_17 (by decide) (fun h => ?_) (fun h => ?_)
    · skip
      refine ii_lv [0] rfl ?_
      cases h
      exact hx_1 (s_1.1, s_1.2.1, s_1.2.2) (hr_1 _ rfl)
    · skip
      refine ii_iload_n 2 dX1_run_20 rfl ?_
      refine ii_iload 4 dX1_run_21 rfl ?_
      refine ii_iadd dX1_run_23 ?_
      refine ii_topI h (fun x_3 h => ?_)
      refine ii_istore (lv' := [(5, .int x_3), (0, .ref a_this), (1, .ref a_p0), (2, .int p1), (3, .int p2), (4, .int s_1.1)]) dX1_run_24 (by decide) rfl ?_
      refine ii_iload 0 dX1_run_26 rfl ?_
      refine ii_jn h (fun j_4 => [(a_p0, .inl (cI, n_p0, .inl v_p0)), (a_this, .inr (1, [.ref a_this_house, .ref a_this_stack, .int j_4.1, .int v_this_gate, .int v_this_kin, .int v_this_town, .int v_this_season, .long v_this_about])), (a_this_stack, .inl (cJ, 50, .inr (.inl j_4.2)))]) (fun j_4 => [(0, .ref a_this), (1, .ref a_p0), (2, .int p1), (3, .int p2), (4, .int s_1.1)]) 46 (fun j_4 => []) (fun j_4 h => ?_) (fun j_4 h hjj_4 => ?_)
      · skip
        refine ii_iinc (fun x_7 => [(4, .int x_7), (0, .ref a_this), (1, .ref a_p0), (2, .int p1), (3, .int p2)]) h 4 dX1_run_46 rfl kc1 (by decide) (fun _ => rfl) (fun x_7 h => ?_)
        refine ii_goto (tgt := 14) dX1_run_49 (by decide) ?_
        refine ii_lv [1, 2, 3, 4, 0] rfl ?_
        cases h
        exact hb_1 (x_7, j_4.1, j_4.2) rfl
      · skip
        refine ii_if_lt (tgt := 46) h dX1_run_28 (by decide) (fun h => ?_) (fun h => ?_)
        · skip
          refine ii_lv [1, 2, 3, 4, 5] rfl ?_
          cases h
          exact hjj_4
        · skip
          refine ii_iload 0 dX1_run_31 rfl ?_
          refine ii_aload_n 2 dX1_run_33 rfl ?_
          refine ii_alen (v := Int32.ofNat n_p0) 0 0 rfl rfl rfl dX1_run_34 ?_
          refine ii_icmp_ge (tgt := 46) h dX1_run_35 (by decide) (fun h => ?_) (fun h => ?_)
          · skip
            refine ii_lv [1, 2, 3, 4, 5] rfl ?_
            cases h
            exact hjj_4
          · skip
            refine ii_aload_n 1 dX1_run_38 rfl ?_
            refine ii_aload_n 2 dX1_run_39 rfl ?_
            refine ii_iload 0 dX1_run_40 rfl ?_
            refine ii_iald h 0 0 rfl rfl dX1_run_42 (fun t_5 h => ?_)
            obtain ⟨c_6, hc_6, h⟩ := bnd h
            refine ii_callVv (As := [.int t_5]) (ws' := [(a_p0, .inl (cI, n_p0, .inl v_p0)), (a_this, .inr (1, [.ref a_this_house, .ref a_this_stack, .int c_6.1, .int v_this_gate, .int v_this_kin, .int v_this_town, .int v_this_season, .long v_this_about])), (a_this_stack, .inl (cJ, 50, .inr (.inl c_6.2)))]) (st := []) (c_X1_work l D cI cJ cZ cH a_this a_this_house a_this_stack v_this_about v_this_gate s_1.2.1 v_this_kin v_this_season s_1.2.2 v_this_town t_5 hc_6) gzX1_102 rfl rfl rfl eV_X1_work ⟨Nat.le_of_ble_eq_true rfl, Nat.le_of_ble_eq_true rfl⟩ rfl 1 rfl rfl [1, 2] rfl rfl rfl rfl rfl (Nat.le_of_ble_eq_true rfl) (Nat.le_refl _) (Nat.le_refl _) rfl dX1_run_43 ?_
            refine ii_lv [1, 2, 3, 4, 5] rfl ?_
            cases h
            exact hjj_4
set_option maxHeartbeats 4000000 in
set_option maxRecDepth 100000 in
theorem c_X1_said (l : Launch) (D : va_G) (cI cJ cZ cH : ClassId) (a_this a_this_house a_this_house_acts a_this_house_acts_cells a_this_house_debts a_this_house_gates a_this_house_letters a_this_house_loads a_this_house_mentions a_this_house_merchants a_this_house_payments a_this_house_prices a_this_house_purses a_this_house_stones a_this_house_texts a_this_house_told a_this_stack : Nat) (v_this_about : Int64) (v_this_gate : Int32) (v_this_height : Int32) (v_this_house_acts_cells : Nat → Int32) (v_this_house_acts_rows : Int32) (v_this_house_names : Int32) (v_this_house_narrow : Int32) (v_this_kin : Int32) (v_this_season : Int32) (v_this_stack : Nat → Int64) (v_this_town : Int32) (p0 : Int32) (p1 : Int32) (p2 : Int32) (p3 : Int32) (p4 : Int32) (p5 : Int64) {res : Int64 × Int64 × Int32 × Int32 × Int32 × Int32 × (Nat → Int64) × Int32} (h : F_X1_said v_this_about v_this_gate v_this_height v_this_house_acts_cells v_this_house_acts_rows v_this_kin v_this_season v_this_stack v_this_town p0 p1 p2 p3 p4 p5 = some res) : CTl l yX1_said wzX1_said { frames := 3, cells := 0, slots := 0, locals := 76 } D [(cI, .int), (cJ, .long), (cZ, .boolean), (cH, .object "TinHouse$House")] [.ref a_this, .int p0, .int p1, .int p2, .int p3, .int p4, .long p5] [(a_this, .inr (1, [.ref a_this_house, .ref a_this_stack, .int v_this_height, .int v_this_gate, .int v_this_kin, .int v_this_town, .int v_this_season, .long v_this_about])), (a_this_house, .inr (0, [.ref a_this_house_merchants, .ref a_this_house_texts, .ref a_this_house_acts, .ref a_this_house_debts, .ref a_this_house_payments, .ref a_this_house_purses, .ref a_this_house_gates, .ref a_this_house_stones, .ref a_this_house_told, .ref a_this_house_letters, .ref a_this_house_mentions, .ref a_this_house_loads, .ref a_this_house_prices, .int v_this_house_narrow, .int v_this_house_names])), (a_this_house_acts, .inr (8, [.int (104 : Int32), .int (16 : Int32), .ref a_this_house_acts_cells, .int v_this_house_acts_rows])), (a_this_house_acts_cells, .inl (cI, 1664, .inl v_this_house_acts_cells)), (a_this_stack, .inl (cJ, 50, .inr (.inl v_this_stack)))] res.1 [(a_this, .inr (1, [.ref a_this_house, .ref a_this_stack, .int res.2.2.2.1, .int res.2.2.1, .int res.2.2.2.2.1, .int res.2.2.2.2.2.2.2, .int res.2.2.2.2.2.1, .long res.2.1])), (a_this_house, .inr (0, [.ref a_this_house_merchants, .ref a_this_house_texts, .ref a_this_house_acts, .ref a_this_house_debts, .ref a_this_house_payments, .ref a_this_house_purses, .ref a_this_house_gates, .ref a_this_house_stones, .ref a_this_house_told, .ref a_this_house_letters, .ref a_this_house_mentions, .ref a_this_house_loads, .ref a_this_house_prices, .int v_this_house_narrow, .int v_this_house_names])), (a_this_house_acts, .inr (8, [.int (104 : Int32), .int (16 : Int32), .ref a_this_house_acts_cells, .int v_this_house_acts_rows])), (a_this_house_acts_cells, .inl (cI, 1664, .inl v_this_house_acts_cells)), (a_this_stack, .inl (cJ, 50, .inr (.inl res.2.2.2.2.2.2.1)))] := by
  unfold F_X1_said at h
  refine ii_metL (own := RX1) (lv0 := [(0, .ref a_this), (1, .int p0), (2, .int p1), (3, .int p2), (4, .int p3), (5, .int p4), (6, .long p5)]) (by decide) rfl rfl rfl (Nat.le_of_ble_eq_true rfl) (fun {p e s m args below meth c A Q} hQ => ?_)
  refine ii_iload_n 1 dX1_said_0 rfl ?_
  refine ii_if_lt (tgt := 20) h dX1_said_1 (by decide) (fun h => ?_) (fun h => ?_)
  · skip
    refine ii_lconst dX1_said_20 kl0 ?_
    cases h
    exact hQ _ _ dX1_said_21
  · skip
    refine ii_iload_n 1 dX1_said_4 rfl ?_
    refine ii_getsU kX1_51 dX1_said_5 (fun y_1 hy_1 => ?_)
    refine ii_tlen (v := 3) hy_1 rfl dX1_said_8 ?_
    refine ii_icmp_ge (tgt := 20) h dX1_said_9 (by decide) (fun h => ?_) (fun h => ?_)
    · skip
      refine ii_lconst dX1_said_20 kl0 ?_
      cases h
      exact hQ _ _ dX1_said_21
    · skip
      refine ii_iload_n 1 dX1_said_12 rfl ?_
      refine ii_getsM kX1_54 dX1_said_13 (fun y_2 hy_2 => ?_)
      refine ii_tlen (v := 3) hy_2 rfl dX1_said_16 ?_
      refine ii_icmp_lt (tgt := 22) h dX1_said_17 (by decide) (fun h => ?_) (fun h => ?_)
      · skip
        refine ii_aload_n 0 dX1_said_22 rfl ?_
        refine ii_iload_n 1 dX1_said_23 rfl ?_
        refine ii_iload_n 2 dX1_said_24 rfl ?_
        obtain ⟨c_3, hc_3, h⟩ := bnd h
        refine ii_callVi (As := [.int p0, .int p1]) (ws' := [(a_this, .inr (1, [.ref a_this_house, .ref a_this_stack, .int v_this_height, .int v_this_gate, .int v_this_kin, .int v_this_town, .int v_this_season, .long v_this_about])), (a_this_house, .inr (0, [.ref a_this_house_merchants, .ref a_this_house_texts, .ref a_this_house_acts, .ref a_this_house_debts, .ref a_this_house_payments, .ref a_this_house_purses, .ref a_this_house_gates, .ref a_this_house_stones, .ref a_this_house_told, .ref a_this_house_letters, .ref a_this_house_mentions, .ref a_this_house_loads, .ref a_this_house_prices, .int v_this_house_narrow, .int v_this_house_names])), (a_this_house_acts, .inr (8, [.int (104 : Int32), .int (16 : Int32), .ref a_this_house_acts_cells, .int v_this_house_acts_rows])), (a_this_house_acts_cells, .inl (cI, 1664, .inl v_this_house_acts_cells)), (a_this_stack, .inl (cJ, 50, .inr (.inl v_this_stack)))]) (st := []) (c_X1_inForce l D cI cJ cZ cH a_this a_this_house a_this_house_acts a_this_house_acts_cells a_this_house_debts a_this_house_gates a_this_house_letters a_this_house_loads a_this_house_mentions a_this_house_merchants a_this_house_payments a_this_house_prices a_this_house_purses a_this_house_stones a_this_house_texts a_this_house_told a_this_stack v_this_about v_this_gate v_this_height v_this_house_acts_cells v_this_house_acts_rows v_this_house_names v_this_house_narrow v_this_kin v_this_season v_this_town p0 p1 hc_3) gzX1_57 rfl rfl rfl eV_X1_inForce ⟨Nat.le_of_ble_eq_true rfl, Nat.le_of_ble_eq_true rfl⟩ rfl 0 rfl rfl [0, 1, 2, 3] rfl rfl rfl rfl rfl (Nat.le_of_ble_eq_true rfl) (Nat.le_refl _) (Nat.le_refl _) rfl dX1_said_25 ?_
        refine ii_istore (lv' := [(8, .int c_3), (0, .ref a_this), (1, .int p0), (2, .int p1), (3, .int p2), (4, .int p3), (5, .int p4), (6, .long p5)]) dX1_said_28 (by decide) rfl ?_
        refine ii_iload 0 dX1_said_30 rfl ?_
        refine ii_iconst dX1_said_32 kcm1 ?_
        refine ii_icmp_ne (tgt := 43) h dX1_said_33 (by decide) (fun h => ?_) (fun h => ?_)
        · skip
          refine ii_aload_n 1 dX1_said_43 rfl ?_
          refine ii_iload_n 4 dX1_said_44 rfl ?_
          refine ii_iload 5 dX1_said_45 rfl ?_
          refine ii_iload 6 dX1_said_47 rfl ?_
          refine ii_iload_n 3 dX1_said_49 rfl ?_
          refine ii_lload 7 dX1_said_50 rfl ?_
          obtain ⟨c_4, hc_4, h⟩ := bnd h
          refine ii_callVv (As := [.int p2, .int p3, .int p4, .int p1, .long p5]) (ws' := [(a_this, .inr (1, [.ref a_this_house, .ref a_this_stack, .int v_this_height, .int c_4.2.1, .int c_4.2.2.1, .int c_4.2.2.2.2, .int c_4.2.2.2.1, .long c_4.1])), (a_this_house, .inr (0, [.ref a_this_house_merchants, .ref a_this_house_texts, .ref a_this_house_acts, .ref a_this_house_debts, .ref a_this_house_payments, .ref a_this_house_purses, .ref a_this_house_gates, .ref a_this_house_stones, .ref a_this_house_told, .ref a_this_house_letters, .ref a_this_house_mentions, .ref a_this_house_loads, .ref a_this_house_prices, .int v_this_house_narrow, .int v_this_house_names])), (a_this_house_acts, .inr (8, [.int (104 : Int32), .int (16 : Int32), .ref a_this_house_acts_cells, .int v_this_house_acts_rows])), (a_this_house_acts_cells, .inl (cI, 1664, .inl v_this_house_acts_cells)), (a_this_stack, .inl (cJ, 50, .inr (.inl v_this_stack)))]) (st := []) (c_X1_meet l D cI cJ cZ cH a_this a_this_house a_this_stack v_this_about v_this_gate v_this_height v_this_kin v_this_season v_this_town p2 p3 p4 p1 p5 hc_4) gzX1_60 rfl rfl rfl eV_X1_meet ⟨Nat.le_of_ble_eq_true rfl, Nat.le_of_ble_eq_true rfl⟩ rfl 0 rfl rfl [0] rfl rfl rfl rfl rfl (Nat.le_of_ble_eq_true rfl) (Nat.le_refl _) (Nat.le_refl _) rfl dX1_said_52 ?_
          refine ii_aload_n 1 dX1_said_55 rfl ?_
          refine ii_get (C := RX1) (T := TX1) (N := 8) (ci := 1) izX1 0 rfl rfl 0 (by decide) kX1_15 rfl dX1_said_56 ?_
          refine ii_get (C := RX0) (T := TX0) (N := 15) (ci := 0) izX0 1 rfl rfl 2 (by decide) kX1_31 rfl dX1_said_59 ?_
          refine ii_iload 0 dX1_said_62 rfl ?_
          refine ii_bipush dX1_said_64 kb54 ?_
          obtain ⟨c_5, hc_5, h⟩ := bnd h
          refine ii_callVi (As := [.int c_3, .int (54 : Int32)]) (ws' := [(a_this, .inr (1, [.ref a_this_house, .ref a_this_stack, .int v_this_height, .int c_4.2.1, .int c_4.2.2.1, .int c_4.2.2.2.2, .int c_4.2.2.2.1, .long c_4.1])), (a_this_house, .inr (0, [.ref a_this_house_merchants, .ref a_this_house_texts, .ref a_this_house_acts, .ref a_this_house_debts, .ref a_this_house_payments, .ref a_this_house_purses, .ref a_this_house_gates, .ref a_this_house_stones, .ref a_this_house_told, .ref a_this_house_letters, .ref a_this_house_mentions, .ref a_this_house_loads, .ref a_this_house_prices, .int v_this_house_narrow, .int v_this_house_names])), (a_this_house_acts, .inr (8, [.int (104 : Int32), .int (16 : Int32), .ref a_this_house_acts_cells, .int v_this_house_acts_rows])), (a_this_house_acts_cells, .inl (cI, 1664, .inl v_this_house_acts_cells)), (a_this_stack, .inl (cJ, 50, .inr (.inl v_this_stack)))]) (st := []) (c_X8_placeOf l D cI cJ cZ cH a_this_house_acts a_this_house_acts_cells (16 : Int32) v_this_house_acts_rows (104 : Int32) c_3 (54 : Int32) hc_5) gzX1_64 rfl rfl rfl eV_X8_placeOf ⟨Nat.le_of_ble_eq_true rfl, Nat.le_of_ble_eq_true rfl⟩ rfl 2 rfl rfl [2] rfl rfl rfl rfl rfl (Nat.le_of_ble_eq_true rfl) (Nat.le_refl _) (Nat.le_refl _) rfl dX1_said_66 ?_
          refine ii_istore (lv' := [(9, .int c_5), (8, .int c_3), (0, .ref a_this), (1, .int p0), (2, .int p1), (3, .int p2), (4, .int p3), (5, .int p4), (6, .long p5)]) dX1_said_69 (by decide) rfl ?_
          refine ii_aload_n 2 dX1_said_71 rfl ?_
          refine ii_aload_n 2 dX1_said_72 rfl ?_
          refine ii_get (C := RX1) (T := TX1) (N := 8) (ci := 1) izX1 0 rfl rfl 0 (by decide) kX1_15 rfl dX1_said_73 ?_
          refine ii_get (C := RX0) (T := TX0) (N := 15) (ci := 0) izX0 1 rfl rfl 2 (by decide) kX1_31 rfl dX1_said_76 ?_
          refine ii_get (C := RX8) (T := TX8) (N := 4) (ci := 8) izX8 2 rfl rfl 2 (by decide) kX1_67 rfl dX1_said_79 ?_
          refine ii_iload 0 dX1_said_82 rfl ?_
          refine ii_aload_n 2 dX1_said_84 rfl ?_
          refine ii_get (C := RX1) (T := TX1) (N := 8) (ci := 1) izX1 0 rfl rfl 0 (by decide) kX1_15 rfl dX1_said_85 ?_
          refine ii_get (C := RX0) (T := TX0) (N := 15) (ci := 0) izX0 1 rfl rfl 2 (by decide) kX1_31 rfl dX1_said_88 ?_
          refine ii_iload 1 dX1_said_91 rfl ?_
          refine ii_bipush dX1_said_93 kb53 ?_
          obtain ⟨c_6, hc_6, h⟩ := bnd h
          refine ii_callVi (As := [.int c_3, .int (53 : Int32)]) (ws' := [(a_this, .inr (1, [.ref a_this_house, .ref a_this_stack, .int v_this_height, .int c_4.2.1, .int c_4.2.2.1, .int c_4.2.2.2.2, .int c_4.2.2.2.1, .long c_4.1])), (a_this_house, .inr (0, [.ref a_this_house_merchants, .ref a_this_house_texts, .ref a_this_house_acts, .ref a_this_house_debts, .ref a_this_house_payments, .ref a_this_house_purses, .ref a_this_house_gates, .ref a_this_house_stones, .ref a_this_house_told, .ref a_this_house_letters, .ref a_this_house_mentions, .ref a_this_house_loads, .ref a_this_house_prices, .int v_this_house_narrow, .int v_this_house_names])), (a_this_house_acts, .inr (8, [.int (104 : Int32), .int (16 : Int32), .ref a_this_house_acts_cells, .int v_this_house_acts_rows])), (a_this_house_acts_cells, .inl (cI, 1664, .inl v_this_house_acts_cells)), (a_this_stack, .inl (cJ, 50, .inr (.inl v_this_stack)))]) (st := [.int c_5, .ref a_this_house_acts_cells, .ref a_this]) (c_X8_get l D cI cJ cZ cH a_this_house_acts a_this_house_acts_cells 1664 v_this_house_acts_cells (16 : Int32) v_this_house_acts_rows (104 : Int32) c_3 (53 : Int32) hc_6) gzX1_25 rfl rfl rfl eV_X8_get ⟨Nat.le_of_ble_eq_true rfl, Nat.le_of_ble_eq_true rfl⟩ rfl 2 rfl rfl [2, 3] rfl rfl rfl rfl rfl (Nat.le_of_ble_eq_true rfl) (Nat.le_refl _) (Nat.le_refl _) rfl dX1_said_95 ?_
          obtain ⟨c_7, hc_7, h⟩ := bnd h
          refine ii_callVl (As := [.ref a_this_house_acts_cells, .int c_5, .int c_6]) (ws' := [(a_this, .inr (1, [.ref a_this_house, .ref a_this_stack, .int c_7.2.1, .int c_4.2.1, .int c_4.2.2.1, .int c_4.2.2.2.2, .int c_4.2.2.2.1, .long c_4.1])), (a_this_house, .inr (0, [.ref a_this_house_merchants, .ref a_this_house_texts, .ref a_this_house_acts, .ref a_this_house_debts, .ref a_this_house_payments, .ref a_this_house_purses, .ref a_this_house_gates, .ref a_this_house_stones, .ref a_this_house_told, .ref a_this_house_letters, .ref a_this_house_mentions, .ref a_this_house_loads, .ref a_this_house_prices, .int v_this_house_narrow, .int v_this_house_names])), (a_this_house_acts, .inr (8, [.int (104 : Int32), .int (16 : Int32), .ref a_this_house_acts_cells, .int v_this_house_acts_rows])), (a_this_house_acts_cells, .inl (cI, 1664, .inl v_this_house_acts_cells)), (a_this_stack, .inl (cJ, 50, .inr (.inl c_7.2.2)))]) (st := []) (c_X1_run l D cI cJ cZ cH a_this_house_acts_cells a_this a_this_house a_this_stack 1664 v_this_house_acts_cells c_4.1 c_4.2.1 v_this_height c_4.2.2.1 c_4.2.2.2.1 v_this_stack c_4.2.2.2.2 c_5 c_6 hc_7) gzX1_70 rfl rfl rfl eV_X1_run ⟨Nat.le_of_ble_eq_true rfl, Nat.le_of_ble_eq_true rfl⟩ rfl 0 rfl rfl [3, 0, 4] rfl rfl rfl rfl rfl (Nat.le_of_ble_eq_true rfl) (Nat.le_refl _) (Nat.le_refl _) rfl dX1_said_98 ?_
          refine ii_lstore (lv' := [(10, .long c_7.1), (9, .int c_5), (8, .int c_3), (0, .ref a_this), (1, .int p0), (2, .int p1), (3, .int p2), (4, .int p3), (5, .int p4), (6, .long p5)]) dX1_said_101 (by decide) rfl ?_
          refine ii_lconst dX1_said_103 kl0 ?_
          refine ii_lload 0 dX1_said_104 rfl ?_
          refine ii_getsM kX1_54 dX1_said_106 (fun y_8 hy_8 => ?_)
          refine ii_iload_n 4 dX1_said_109 rfl ?_
          refine ii_tald h hy_8 dX1_said_110 (fun t_9 h => ?_)
          refine ii_i2l dX1_said_111 ?_
          refine ii_mminL mX1_74 ms_min_long mi_Math mc_min_long (Nat.le_of_ble_eq_true rfl) (Nat.le_of_ble_eq_true rfl) (Nat.le_refl _) (Nat.le_refl _) dX1_said_112 ?_
          refine ii_mmaxL mX1_80 ms_max_long mi_Math mc_max_long (Nat.le_of_ble_eq_true rfl) (Nat.le_of_ble_eq_true rfl) (Nat.le_refl _) (Nat.le_refl _) dX1_said_115 ?_
          cases h
          exact hQ _ _ dX1_said_118
        · skip
          refine ii_getsU kX1_51 dX1_said_36 (fun y_10 hy_10 => ?_)
          refine ii_iload_n 2 dX1_said_39 rfl ?_
          refine ii_tald h hy_10 dX1_said_40 (fun t_11 h => ?_)
          refine ii_i2l dX1_said_41 ?_
          cases h
          exact hQ _ _ dX1_said_42
      · skip
        refine ii_lconst dX1_said_20 kl0 ?_
        cases h
        exact hQ _ _ dX1_said_21
