set_option maxHeartbeats 4000000 in
set_option maxRecDepth 100000 in
theorem c_X9_leftByGates (l : Launch) (D : va_G) (cI cJ cZ cH : ClassId) (a_this a_this_house a_this_house_acts a_this_house_acts_cells a_this_house_debts a_this_house_gates a_this_house_gates_cells a_this_house_letters a_this_house_loads a_this_house_mentions a_this_house_merchants a_this_house_merchants_cells a_this_house_payments a_this_house_prices a_this_house_purses a_this_house_stones a_this_house_texts a_this_house_told a_this_law a_this_law_stack : Nat) (v_this_house_acts_cells : Nat → Int32) (v_this_house_acts_rows : Int32) (v_this_house_gates_cells : Nat → Int32) (v_this_house_gates_rows : Int32) (v_this_house_merchants_cells : Nat → Int32) (v_this_house_merchants_rows : Int32) (v_this_house_names : Int32) (v_this_house_narrow : Int32) (v_this_law_about : Int64) (v_this_law_gate : Int32) (v_this_law_height : Int32) (v_this_law_kin : Int32) (v_this_law_season : Int32) (v_this_law_stack : Nat → Int64) (v_this_law_town : Int32) (p0 : Int32) (p1 : Int32) (p2 : Int32) {res : Int32 × Int64 × Int32 × Int32 × Int32 × Int32 × (Nat → Int64) × Int32} (h : F_X9_leftByGates v_this_house_acts_cells v_this_house_acts_rows v_this_house_gates_cells v_this_house_gates_rows v_this_house_merchants_cells v_this_house_merchants_rows v_this_law_about v_this_law_gate v_this_law_height v_this_law_kin v_this_law_season v_this_law_stack v_this_law_town p0 p1 p2 = some res) : CTi l yX9_leftByGates wzX9_leftByGates { frames := 4, cells := 0, slots := 0, locals := 107 } D [(cI, .int), (cJ, .long), (cZ, .boolean), (cH, .object "TinHouse$House")] [.ref a_this, .int p0, .int p1, .int p2] [(a_this, .inr (9, [.ref a_this_house, .ref a_this_law])), (a_this_house, .inr (0, [.ref a_this_house_merchants, .ref a_this_house_texts, .ref a_this_house_acts, .ref a_this_house_debts, .ref a_this_house_payments, .ref a_this_house_purses, .ref a_this_house_gates, .ref a_this_house_stones, .ref a_this_house_told, .ref a_this_house_letters, .ref a_this_house_mentions, .ref a_this_house_loads, .ref a_this_house_prices, .int v_this_house_narrow, .int v_this_house_names])), (a_this_house_acts, .inr (8, [.int (104 : Int32), .int (16 : Int32), .ref a_this_house_acts_cells, .int v_this_house_acts_rows])), (a_this_house_acts_cells, .inl (cI, 1664, .inl v_this_house_acts_cells)), (a_this_house_gates, .inr (8, [.int (1 : Int32), .int (6 : Int32), .ref a_this_house_gates_cells, .int v_this_house_gates_rows])), (a_this_house_gates_cells, .inl (cI, 6, .inl v_this_house_gates_cells)), (a_this_house_merchants, .inr (8, [.int (2 : Int32), .int (10 : Int32), .ref a_this_house_merchants_cells, .int v_this_house_merchants_rows])), (a_this_house_merchants_cells, .inl (cI, 20, .inl v_this_house_merchants_cells)), (a_this_law, .inr (1, [.ref a_this_house, .ref a_this_law_stack, .int v_this_law_height, .int v_this_law_gate, .int v_this_law_kin, .int v_this_law_town, .int v_this_law_season, .long v_this_law_about])), (a_this_law_stack, .inl (cJ, 50, .inr (.inl v_this_law_stack)))] res.1 [(a_this, .inr (9, [.ref a_this_house, .ref a_this_law])), (a_this_house, .inr (0, [.ref a_this_house_merchants, .ref a_this_house_texts, .ref a_this_house_acts, .ref a_this_house_debts, .ref a_this_house_payments, .ref a_this_house_purses, .ref a_this_house_gates, .ref a_this_house_stones, .ref a_this_house_told, .ref a_this_house_letters, .ref a_this_house_mentions, .ref a_this_house_loads, .ref a_this_house_prices, .int v_this_house_narrow, .int v_this_house_names])), (a_this_house_acts, .inr (8, [.int (104 : Int32), .int (16 : Int32), .ref a_this_house_acts_cells, .int v_this_house_acts_rows])), (a_this_house_acts_cells, .inl (cI, 1664, .inl v_this_house_acts_cells)), (a_this_house_gates, .inr (8, [.int (1 : Int32), .int (6 : Int32), .ref a_this_house_gates_cells, .int v_this_house_gates_rows])), (a_this_house_gates_cells, .inl (cI, 6, .inl v_this_house_gates_cells)), (a_this_house_merchants, .inr (8, [.int (2 : Int32), .int (10 : Int32), .ref a_this_house_merchants_cells, .int v_this_house_merchants_rows])), (a_this_house_merchants_cells, .inl (cI, 20, .inl v_this_house_merchants_cells)), (a_this_law, .inr (1, [.ref a_this_house, .ref a_this_law_stack, .int res.2.2.2.1, .int res.2.2.1, .int res.2.2.2.2.1, .int res.2.2.2.2.2.2.2, .int res.2.2.2.2.2.1, .long res.2.1])), (a_this_law_stack, .inl (cJ, 50, .inr (.inl res.2.2.2.2.2.2.1)))] := by
  unfold F_X9_leftByGates at h
  refine ii_metI (own := RX9) (lv0 := [(0, .ref a_this), (1, .int p0), (2, .int p1), (3, .int p2)]) (by decide) rfl rfl rfl (Nat.le_of_ble_eq_true rfl) (fun {p e s m args below meth c A Q} hQ => ?_)
  refine ii_aload_n 0 dX9_leftByGates_0 rfl ?_
  refine ii_get (C := RX9) (T := TX9) (N := 2) (ci := 9) izX9 0 rfl rfl 0 (by decide) kX9_9 rfl dX9_leftByGates_1 ?_
  refine ii_get (C := RX0) (T := TX0) (N := 15) (ci := 0) izX0 1 rfl rfl 0 (by decide) kX9_19 rfl dX9_leftByGates_4 ?_
  refine ii_iload_n 1 dX9_leftByGates_7 rfl ?_
  refine ii_iconst dX9_leftByGates_8 kc1 ?_
  obtain ⟨c_1, hc_1, h⟩ := bnd h
  refine ii_callVi (As := [.int p0, .int (1 : Int32)]) (ws' := [(a_this, .inr (9, [.ref a_this_house, .ref a_this_law])), (a_this_house, .inr (0, [.ref a_this_house_merchants, .ref a_this_house_texts, .ref a_this_house_acts, .ref a_this_house_debts, .ref a_this_house_payments, .ref a_this_house_purses, .ref a_this_house_gates, .ref a_this_house_stones, .ref a_this_house_told, .ref a_this_house_letters, .ref a_this_house_mentions, .ref a_this_house_loads, .ref a_this_house_prices, .int v_this_house_narrow, .int v_this_house_names])), (a_this_house_acts, .inr (8, [.int (104 : Int32), .int (16 : Int32), .ref a_this_house_acts_cells, .int v_this_house_acts_rows])), (a_this_house_acts_cells, .inl (cI, 1664, .inl v_this_house_acts_cells)), (a_this_house_gates, .inr (8, [.int (1 : Int32), .int (6 : Int32), .ref a_this_house_gates_cells, .int v_this_house_gates_rows])), (a_this_house_gates_cells, .inl (cI, 6, .inl v_this_house_gates_cells)), (a_this_house_merchants, .inr (8, [.int (2 : Int32), .int (10 : Int32), .ref a_this_house_merchants_cells, .int v_this_house_merchants_rows])), (a_this_house_merchants_cells, .inl (cI, 20, .inl v_this_house_merchants_cells)), (a_this_law, .inr (1, [.ref a_this_house, .ref a_this_law_stack, .int v_this_law_height, .int v_this_law_gate, .int v_this_law_kin, .int v_this_law_town, .int v_this_law_season, .long v_this_law_about])), (a_this_law_stack, .inl (cJ, 50, .inr (.inl v_this_law_stack)))]) (st := []) (c_X8_get l D cI cJ cZ cH a_this_house_merchants a_this_house_merchants_cells 20 v_this_house_merchants_cells (10 : Int32) v_this_house_merchants_rows (2 : Int32) p0 (1 : Int32) hc_1) gzX9_25 rfl rfl rfl eV_X8_get ⟨Nat.le_of_ble_eq_true rfl, Nat.le_of_ble_eq_true rfl⟩ rfl 6 rfl rfl [6, 7] rfl rfl rfl rfl rfl (Nat.le_of_ble_eq_true rfl) (Nat.le_refl _) (Nat.le_refl _) rfl dX9_leftByGates_9 ?_
  refine ii_istore (lv' := [(4, .int c_1), (0, .ref a_this), (1, .int p0), (2, .int p1), (3, .int p2)]) dX9_leftByGates_12 (by decide) rfl ?_
  refine ii_iload_n 3 dX9_leftByGates_14 rfl ?_
  refine ii_i2l dX9_leftByGates_15 ?_
  refine ii_lstore (lv' := [(5, .long p1.toInt64), (4, .int c_1), (0, .ref a_this), (1, .int p0), (2, .int p1), (3, .int p2)]) dX9_leftByGates_16 (by decide) rfl ?_
  refine ii_iconst dX9_leftByGates_18 kc0 ?_
  refine ii_istore (lv' := [(7, .int (0 : Int32)), (5, .long p1.toInt64), (4, .int c_1), (0, .ref a_this), (1, .int p0), (2, .int p1), (3, .int p2)]) dX9_leftByGates_19 (by decide) rfl ?_
  refine ii_lv [3, 6, 2, 1, 0] rfl ?_
  obtain ⟨x_3, hl_2, h⟩ := bnd h
  refine ii_loopX (fun s_2 => [(a_this, .inr (9, [.ref a_this_house, .ref a_this_law])), (a_this_house, .inr (0, [.ref a_this_house_merchants, .ref a_this_house_texts, .ref a_this_house_acts, .ref a_this_house_debts, .ref a_this_house_payments, .ref a_this_house_purses, .ref a_this_house_gates, .ref a_this_house_stones, .ref a_this_house_told, .ref a_this_house_letters, .ref a_this_house_mentions, .ref a_this_house_loads, .ref a_this_house_prices, .int v_this_house_narrow, .int v_this_house_names])), (a_this_house_acts, .inr (8, [.int (104 : Int32), .int (16 : Int32), .ref a_this_house_acts_cells, .int v_this_house_acts_rows])), (a_this_house_acts_cells, .inl (cI, 1664, .inl v_this_house_acts_cells)), (a_this_house_gates, .inr (8, [.int (1 : Int32), .int (6 : Int32), .ref a_this_house_gates_cells, .int v_this_house_gates_rows])), (a_this_house_gates_cells, .inl (cI, 6, .inl v_this_house_gates_cells)), (a_this_house_merchants, .inr (8, [.int (2 : Int32), .int (10 : Int32), .ref a_this_house_merchants_cells, .int v_this_house_merchants_rows])), (a_this_house_merchants_cells, .inl (cI, 20, .inl v_this_house_merchants_cells)), (a_this_law, .inr (1, [.ref a_this_house, .ref a_this_law_stack, .int s_2.2.2.2.2.1, .int s_2.2.2.2.1, .int s_2.2.2.2.2.2.1, .int s_2.2.2.2.2.2.2.2.2, .int s_2.2.2.2.2.2.2.1, .long s_2.2.2.1])), (a_this_law_stack, .inl (cJ, 50, .inr (.inl s_2.2.2.2.2.2.2.2.1)))]) (fun s_2 => [(0, .ref a_this), (3, .int p2), (4, .int c_1), (5, .long s_2.1), (7, .int s_2.2.1)]) (fun x_3 => [(a_this, .inr (9, [.ref a_this_house, .ref a_this_law])), (a_this_house, .inr (0, [.ref a_this_house_merchants, .ref a_this_house_texts, .ref a_this_house_acts, .ref a_this_house_debts, .ref a_this_house_payments, .ref a_this_house_purses, .ref a_this_house_gates, .ref a_this_house_stones, .ref a_this_house_told, .ref a_this_house_letters, .ref a_this_house_mentions, .ref a_this_house_loads, .ref a_this_house_prices, .int v_this_house_narrow, .int v_this_house_names])), (a_this_house_acts, .inr (8, [.int (104 : Int32), .int (16 : Int32), .ref a_this_house_acts_cells, .int v_this_house_acts_rows])), (a_this_house_acts_cells, .inl (cI, 1664, .inl v_this_house_acts_cells)), (a_this_house_gates, .inr (8, [.int (1 : Int32), .int (6 : Int32), .ref a_this_house_gates_cells, .int v_this_house_gates_rows])), (a_this_house_gates_cells, .inl (cI, 6, .inl v_this_house_gates_cells)), (a_this_house_merchants, .inr (8, [.int (2 : Int32), .int (10 : Int32), .ref a_this_house_merchants_cells, .int v_this_house_merchants_rows])), (a_this_house_merchants_cells, .inl (cI, 20, .inl v_this_house_merchants_cells)), (a_this_law, .inr (1, [.ref a_this_house, .ref a_this_law_stack, .int x_3.2.2.2.2.1, .int x_3.2.2.2.1, .int x_3.2.2.2.2.2.1, .int x_3.2.2.2.2.2.2.2.2, .int x_3.2.2.2.2.2.2.1, .long x_3.2.2.1])), (a_this_law_stack, .inl (cJ, 50, .inr (.inl x_3.2.2.2.2.2.2.2.1)))]) (fun x_3 => [(5, .long x_3.1)]) 100 hl_2 rfl rfl ?_ (fun s_2 o h hb_2 hr_2 hx_2 => ?_)
  · skip
    refine ii_lload 0 dX9_leftByGates_100 rfl ?_
    refine ii_l2i dX9_leftByGates_102 ?_
    cases h
    exact hQ _ _ dX9_leftByGates_103
  · skip
    refine ii_iload 4 dX9_leftByGates_21 rfl ?_
    refine ii_aload_n 0 dX9_leftByGates_23 rfl ?_
    refine ii_get (C := RX9) (T := TX9) (N := 2) (ci := 9) izX9 0 rfl rfl 0 (by decide) kX9_9 rfl dX9_leftByGates_24 ?_
    refine ii_get (C := RX0) (T := TX0) (N := 15) (ci := 0) izX0 1 rfl rfl 6 (by decide) kX9_31 rfl dX9_leftByGates_27 ?_
    refine ii_get (C := RX8) (T := TX8) (N := 4) (ci := 8) izX8 4 rfl rfl 3 (by decide) kX9_34 rfl dX9_leftByGates_30 ?_
    refine ii_icmp_ge (tgt := 100) h dX9_leftByGates_33 (by decide) (fun h => ?_) (fun h => ?_)
    · skip
      refine ii_lv [3] rfl ?_
      cases h
      exact hx_2 (s_2.1, s_2.2.1, s_2.2.2.1, s_2.2.2.2.1, s_2.2.2.2.2.1, s_2.2.2.2.2.2.1, s_2.2.2.2.2.2.2.1, s_2.2.2.2.2.2.2.2.1, s_2.2.2.2.2.2.2.2.2) (hr_2 _ rfl)
    · skip
      refine ii_aload_n 0 dX9_leftByGates_36 rfl ?_
      refine ii_get (C := RX9) (T := TX9) (N := 2) (ci := 9) izX9 0 rfl rfl 0 (by decide) kX9_9 rfl dX9_leftByGates_37 ?_
      refine ii_get (C := RX0) (T := TX0) (N := 15) (ci := 0) izX0 1 rfl rfl 6 (by decide) kX9_31 rfl dX9_leftByGates_40 ?_
      refine ii_iload 4 dX9_leftByGates_43 rfl ?_
      refine ii_iconst dX9_leftByGates_45 kc0 ?_
      obtain ⟨c_4, hc_4, h⟩ := bnd h
      refine ii_callVi (As := [.int s_2.2.1, .int (0 : Int32)]) (ws' := [(a_this, .inr (9, [.ref a_this_house, .ref a_this_law])), (a_this_house, .inr (0, [.ref a_this_house_merchants, .ref a_this_house_texts, .ref a_this_house_acts, .ref a_this_house_debts, .ref a_this_house_payments, .ref a_this_house_purses, .ref a_this_house_gates, .ref a_this_house_stones, .ref a_this_house_told, .ref a_this_house_letters, .ref a_this_house_mentions, .ref a_this_house_loads, .ref a_this_house_prices, .int v_this_house_narrow, .int v_this_house_names])), (a_this_house_acts, .inr (8, [.int (104 : Int32), .int (16 : Int32), .ref a_this_house_acts_cells, .int v_this_house_acts_rows])), (a_this_house_acts_cells, .inl (cI, 1664, .inl v_this_house_acts_cells)), (a_this_house_gates, .inr (8, [.int (1 : Int32), .int (6 : Int32), .ref a_this_house_gates_cells, .int v_this_house_gates_rows])), (a_this_house_gates_cells, .inl (cI, 6, .inl v_this_house_gates_cells)), (a_this_house_merchants, .inr (8, [.int (2 : Int32), .int (10 : Int32), .ref a_this_house_merchants_cells, .int v_this_house_merchants_rows])), (a_this_house_merchants_cells, .inl (cI, 20, .inl v_this_house_merchants_cells)), (a_this_law, .inr (1, [.ref a_this_house, .ref a_this_law_stack, .int s_2.2.2.2.2.1, .int s_2.2.2.2.1, .int s_2.2.2.2.2.2.1, .int s_2.2.2.2.2.2.2.2.2, .int s_2.2.2.2.2.2.2.1, .long s_2.2.2.1])), (a_this_law_stack, .inl (cJ, 50, .inr (.inl s_2.2.2.2.2.2.2.2.1)))]) (st := []) (c_X8_get l D cI cJ cZ cH a_this_house_gates a_this_house_gates_cells 6 v_this_house_gates_cells (6 : Int32) v_this_house_gates_rows (1 : Int32) s_2.2.1 (0 : Int32) hc_4) gzX9_25 rfl rfl rfl eV_X8_get ⟨Nat.le_of_ble_eq_true rfl, Nat.le_of_ble_eq_true rfl⟩ rfl 4 rfl rfl [4, 5] rfl rfl rfl rfl rfl (Nat.le_of_ble_eq_true rfl) (Nat.le_refl _) (Nat.le_refl _) rfl dX9_leftByGates_46 ?_
      refine ii_istore (lv' := [(8, .int c_4), (0, .ref a_this), (3, .int p2), (4, .int c_1), (5, .long s_2.1), (7, .int s_2.2.1)]) dX9_leftByGates_49 (by decide) rfl ?_
      refine ii_aload_n 1 dX9_leftByGates_51 rfl ?_
      refine ii_get (C := RX9) (T := TX9) (N := 2) (ci := 9) izX9 0 rfl rfl 1 (by decide) kX9_15 rfl dX9_leftByGates_52 ?_
      refine ii_iconst dX9_leftByGates_55 kc0 ?_
      refine ii_iload_n 2 dX9_leftByGates_56 rfl ?_
      refine ii_iload 5 dX9_leftByGates_57 rfl ?_
      refine ii_iload 3 dX9_leftByGates_59 rfl ?_
      refine ii_iload 0 dX9_leftByGates_61 rfl ?_
      refine ii_jn h (fun j_5 => [(a_this, .inr (9, [.ref a_this_house, .ref a_this_law])), (a_this_house, .inr (0, [.ref a_this_house_merchants, .ref a_this_house_texts, .ref a_this_house_acts, .ref a_this_house_debts, .ref a_this_house_payments, .ref a_this_house_purses, .ref a_this_house_gates, .ref a_this_house_stones, .ref a_this_house_told, .ref a_this_house_letters, .ref a_this_house_mentions, .ref a_this_house_loads, .ref a_this_house_prices, .int v_this_house_narrow, .int v_this_house_names])), (a_this_house_acts, .inr (8, [.int (104 : Int32), .int (16 : Int32), .ref a_this_house_acts_cells, .int v_this_house_acts_rows])), (a_this_house_acts_cells, .inl (cI, 1664, .inl v_this_house_acts_cells)), (a_this_house_gates, .inr (8, [.int (1 : Int32), .int (6 : Int32), .ref a_this_house_gates_cells, .int v_this_house_gates_rows])), (a_this_house_gates_cells, .inl (cI, 6, .inl v_this_house_gates_cells)), (a_this_house_merchants, .inr (8, [.int (2 : Int32), .int (10 : Int32), .ref a_this_house_merchants_cells, .int v_this_house_merchants_rows])), (a_this_house_merchants_cells, .inl (cI, 20, .inl v_this_house_merchants_cells)), (a_this_law, .inr (1, [.ref a_this_house, .ref a_this_law_stack, .int s_2.2.2.2.2.1, .int s_2.2.2.2.1, .int s_2.2.2.2.2.2.1, .int s_2.2.2.2.2.2.2.2.2, .int s_2.2.2.2.2.2.2.1, .long s_2.2.2.1])), (a_this_law_stack, .inl (cJ, 50, .inr (.inl s_2.2.2.2.2.2.2.2.1)))]) (fun j_5 => [(0, .ref a_this), (3, .int p2), (4, .int c_1), (5, .long s_2.1), (7, .int s_2.2.1), (8, .int c_4)]) 71 (fun j_5 => [.int j_5, .int s_2.2.1, .int p2, .int (0 : Int32), .ref a_this_law]) (fun j_5 h => ?_) (fun j_5 h hjj_5 => ?_)
      · skip
        refine ii_iload 5 dX9_leftByGates_71 rfl ?_
        refine ii_lload 3 dX9_leftByGates_73 rfl ?_
        obtain ⟨c_6, hc_6, h⟩ := bnd h
        refine ii_callVl (As := [.int (0 : Int32), .int p2, .int s_2.2.1, .int j_5, .int c_4, .long s_2.1]) (ws' := [(a_this, .inr (9, [.ref a_this_house, .ref a_this_law])), (a_this_house, .inr (0, [.ref a_this_house_merchants, .ref a_this_house_texts, .ref a_this_house_acts, .ref a_this_house_debts, .ref a_this_house_payments, .ref a_this_house_purses, .ref a_this_house_gates, .ref a_this_house_stones, .ref a_this_house_told, .ref a_this_house_letters, .ref a_this_house_mentions, .ref a_this_house_loads, .ref a_this_house_prices, .int v_this_house_narrow, .int v_this_house_names])), (a_this_house_acts, .inr (8, [.int (104 : Int32), .int (16 : Int32), .ref a_this_house_acts_cells, .int v_this_house_acts_rows])), (a_this_house_acts_cells, .inl (cI, 1664, .inl v_this_house_acts_cells)), (a_this_house_gates, .inr (8, [.int (1 : Int32), .int (6 : Int32), .ref a_this_house_gates_cells, .int v_this_house_gates_rows])), (a_this_house_gates_cells, .inl (cI, 6, .inl v_this_house_gates_cells)), (a_this_house_merchants, .inr (8, [.int (2 : Int32), .int (10 : Int32), .ref a_this_house_merchants_cells, .int v_this_house_merchants_rows])), (a_this_house_merchants_cells, .inl (cI, 20, .inl v_this_house_merchants_cells)), (a_this_law, .inr (1, [.ref a_this_house, .ref a_this_law_stack, .int c_6.2.2.2.1, .int c_6.2.2.1, .int c_6.2.2.2.2.1, .int c_6.2.2.2.2.2.2.2, .int c_6.2.2.2.2.2.1, .long c_6.2.1])), (a_this_law_stack, .inl (cJ, 50, .inr (.inl c_6.2.2.2.2.2.2.1)))]) (st := []) (c_X1_said l D cI cJ cZ cH a_this_law a_this_house a_this_house_acts a_this_house_acts_cells a_this_house_debts a_this_house_gates a_this_house_letters a_this_house_loads a_this_house_mentions a_this_house_merchants a_this_house_payments a_this_house_prices a_this_house_purses a_this_house_stones a_this_house_texts a_this_house_told a_this_law_stack s_2.2.2.1 s_2.2.2.2.1 s_2.2.2.2.2.1 v_this_house_acts_cells v_this_house_acts_rows v_this_house_names v_this_house_narrow s_2.2.2.2.2.2.1 s_2.2.2.2.2.2.2.1 s_2.2.2.2.2.2.2.2.1 s_2.2.2.2.2.2.2.2.2 (0 : Int32) p2 s_2.2.1 j_5 c_4 s_2.1 hc_6) gzX9_38 rfl rfl rfl eV_X1_said ⟨Nat.le_of_ble_eq_true rfl, Nat.le_of_ble_eq_true rfl⟩ rfl 8 rfl rfl [8, 1, 2, 3, 9] rfl rfl rfl rfl rfl (Nat.le_of_ble_eq_true rfl) (Nat.le_refl _) (Nat.le_refl _) rfl dX9_leftByGates_75 ?_
        refine ii_lstore (lv' := [(9, .long c_6.1), (0, .ref a_this), (3, .int p2), (4, .int c_1), (5, .long s_2.1), (7, .int s_2.2.1), (8, .int c_4)]) dX9_leftByGates_78 (by decide) rfl ?_
        refine ii_lload 4 dX9_leftByGates_80 rfl ?_
        refine ii_lload 4 dX9_leftByGates_82 rfl ?_
        refine ii_lload 0 dX9_leftByGates_84 rfl ?_
        refine ii_lmul dX9_leftByGates_86 ?_
        refine ii_ldc2 (v := 100) dX9_leftByGates_87 kX9_44 ?_
        refine ii_ldiv h dX9_leftByGates_90 (fun t_7 h => ?_)
        refine ii_lsub dX9_leftByGates_91 ?_
        refine ii_topL h (fun x_8 h => ?_)
        refine ii_lstore (lv' := [(5, .long x_8), (9, .long c_6.1), (0, .ref a_this), (3, .int p2), (4, .int c_1), (7, .int s_2.2.1), (8, .int c_4)]) dX9_leftByGates_92 (by decide) rfl ?_
        refine ii_iinc (fun x_9 => [(7, .int x_9), (5, .long x_8), (9, .long c_6.1), (0, .ref a_this), (3, .int p2), (4, .int c_1), (8, .int c_4)]) h 5 dX9_leftByGates_94 rfl kc1 (by decide) (fun _ => rfl) (fun x_9 h => ?_)
        refine ii_goto (tgt := 21) dX9_leftByGates_97 (by decide) ?_
        refine ii_lv [3, 4, 5, 1, 0] rfl ?_
        cases h
        exact hb_2 (x_8, x_9, c_6.2.1, c_6.2.2.1, c_6.2.2.2.1, c_6.2.2.2.2.1, c_6.2.2.2.2.2.1, c_6.2.2.2.2.2.2.1, c_6.2.2.2.2.2.2.2) rfl
      · skip
        refine ii_icmp_ne (tgt := 70) h dX9_leftByGates_63 (by decide) (fun h => ?_) (fun h => ?_)
        · skip
          refine ii_iconst dX9_leftByGates_70 kc0 ?_
          refine ii_lv [1, 2, 3, 4, 5, 0] rfl ?_
          cases h
          exact hjj_5
        · skip
          refine ii_iconst dX9_leftByGates_66 kc1 ?_
          refine ii_goto (tgt := 71) dX9_leftByGates_67 (by decide) ?_
          refine ii_lv [1, 2, 3, 4, 5, 0] rfl ?_
          cases h
          exact hjj_5
set_option maxHeartbeats 4000000 in
set_option maxRecDepth 100000 in
theorem c_X9_leftByLuck (l : Launch) (D : va_G) (cI cJ cZ cH : ClassId) (a_this a_this_house a_this_house_acts a_this_house_debts a_this_house_gates a_this_house_letters a_this_house_loads a_this_house_mentions a_this_house_merchants a_this_house_payments a_this_house_prices a_this_house_purses a_this_house_stones a_this_house_texts a_this_house_told a_this_law : Nat) (v_this_house_names : Int32) (v_this_house_narrow : Int32) (p0 : Int32) {res : Int32} (h : F_X9_leftByLuck v_this_house_narrow p0 = some res) : CTi l yX9_leftByLuck wzX9_leftByLuck { frames := 0, cells := 0, slots := 0, locals := 0 } D [(cI, .int), (cJ, .long), (cZ, .boolean), (cH, .object "TinHouse$House")] [.ref a_this, .int p0] [(a_this, .inr (9, [.ref a_this_house, .ref a_this_law])), (a_this_house, .inr (0, [.ref a_this_house_merchants, .ref a_this_house_texts, .ref a_this_house_acts, .ref a_this_house_debts, .ref a_this_house_payments, .ref a_this_house_purses, .ref a_this_house_gates, .ref a_this_house_stones, .ref a_this_house_told, .ref a_this_house_letters, .ref a_this_house_mentions, .ref a_this_house_loads, .ref a_this_house_prices, .int v_this_house_narrow, .int v_this_house_names]))] res [(a_this, .inr (9, [.ref a_this_house, .ref a_this_law])), (a_this_house, .inr (0, [.ref a_this_house_merchants, .ref a_this_house_texts, .ref a_this_house_acts, .ref a_this_house_debts, .ref a_this_house_payments, .ref a_this_house_purses, .ref a_this_house_gates, .ref a_this_house_stones, .ref a_this_house_told, .ref a_this_house_letters, .ref a_this_house_mentions, .ref a_this_house_loads, .ref a_this_house_prices, .int v_this_house_narrow, .int v_this_house_names]))] := by
  unfold F_X9_leftByLuck at h
  refine ii_metI (own := RX9) (lv0 := [(0, .ref a_this), (1, .int p0)]) (by decide) rfl rfl rfl (Nat.le_of_ble_eq_true rfl) (fun {p e s m args below meth c A Q} hQ => ?_)
  refine ii_aload_n 0 dX9_leftByLuck_0 rfl ?_
  refine ii_get (C := RX9) (T := TX9) (N := 2) (ci := 9) izX9 0 rfl rfl 0 (by decide) kX9_9 rfl dX9_leftByLuck_1 ?_
  refine ii_get (C := RX0) (T := TX0) (N := 15) (ci := 0) izX0 1 rfl rfl 13 (by decide) kX9_46 rfl dX9_leftByLuck_4 ?_
  refine ii_istore_n (lv' := [(2, .int v_this_house_narrow), (0, .ref a_this), (1, .int p0)]) dX9_leftByLuck_7 rfl (by decide) rfl ?_
  refine ii_iload_n 0 dX9_leftByLuck_8 rfl ?_
  refine ii_jn h (fun j_1 => [(a_this, .inr (9, [.ref a_this_house, .ref a_this_law])), (a_this_house, .inr (0, [.ref a_this_house_merchants, .ref a_this_house_texts, .ref a_this_house_acts, .ref a_this_house_debts, .ref a_this_house_payments, .ref a_this_house_purses, .ref a_this_house_gates, .ref a_this_house_stones, .ref a_this_house_told, .ref a_this_house_letters, .ref a_this_house_mentions, .ref a_this_house_loads, .ref a_this_house_prices, .int v_this_house_narrow, .int v_this_house_names]))]) (fun j_1 => []) 27 (fun j_1 => [.int j_1]) (fun j_1 h => ?_) (fun j_1 h hjj_1 => ?_)
  · skip
    cases h
    exact hQ _ _ dX9_leftByLuck_27
  · skip
    refine ii_if_le (tgt := 26) h dX9_leftByLuck_9 (by decide) (fun h => ?_) (fun h => ?_)
    · skip
      refine ii_iconst dX9_leftByLuck_26 kc0 ?_
      refine ii_lv [] rfl ?_
      cases h
      exact hjj_1
    · skip
      refine ii_iload_n 2 dX9_leftByLuck_12 rfl ?_
      refine ii_i2l dX9_leftByLuck_13 ?_
      refine ii_iload_n 0 dX9_leftByLuck_14 rfl ?_
      refine ii_iconst dX9_leftByLuck_15 kc1 ?_
      refine ii_isub dX9_leftByLuck_16 ?_
      refine ii_i2l dX9_leftByLuck_17 ?_
      refine ii_lmul dX9_leftByLuck_18 ?_
      refine ii_iload_n 0 dX9_leftByLuck_19 rfl ?_
      refine ii_i2l dX9_leftByLuck_20 ?_
      refine ii_ldiv h dX9_leftByLuck_21 (fun t_2 h => ?_)
      refine ii_l2i dX9_leftByLuck_22 ?_
      refine ii_goto (tgt := 27) dX9_leftByLuck_23 (by decide) ?_
      refine ii_lv [] rfl ?_
      cases h
      exact hjj_1
set_option maxHeartbeats 4000000 in
set_option maxRecDepth 100000 in
theorem c_X6_carriedBy (l : Launch) (D : va_G) (cI cJ cZ cH : ClassId) (a_this a_this_carried a_this_house : Nat) (v_this_carried : Nat → Int32) (p0 : Int32) {res : Int32} (h : F_X6_carriedBy v_this_carried p0 = some res) : CTi l yX6_carriedBy wzX6_carriedBy { frames := 0, cells := 0, slots := 0, locals := 0 } D [(cI, .int), (cJ, .long), (cZ, .boolean), (cH, .object "TinHouse$House")] [.ref a_this, .int p0] [(a_this, .inr (6, [.ref a_this_house, .ref a_this_carried])), (a_this_carried, .inl (cI, 30, .inl v_this_carried))] res [(a_this, .inr (6, [.ref a_this_house, .ref a_this_carried])), (a_this_carried, .inl (cI, 30, .inl v_this_carried))] := by
  unfold F_X6_carriedBy at h
  refine ii_metI (own := RX6) (lv0 := [(0, .ref a_this), (1, .int p0)]) (by decide) rfl rfl rfl (Nat.le_of_ble_eq_true rfl) (fun {p e s m args below meth c A Q} hQ => ?_)
  refine ii_iload_n 1 dX6_carriedBy_0 rfl ?_
  refine ii_jn h (fun j_1 => [(a_this, .inr (6, [.ref a_this_house, .ref a_this_carried])), (a_this_carried, .inl (cI, 30, .inl v_this_carried))]) (fun j_1 => []) 23 (fun j_1 => [.int j_1]) (fun j_1 h => ?_) (fun j_1 h hjj_1 => ?_)
  · skip
    cases h
    exact hQ _ _ dX6_carriedBy_23
  · skip
    refine ii_if_lt (tgt := 22) h dX6_carriedBy_1 (by decide) (fun h => ?_) (fun h => ?_)
    · skip
      refine ii_iconst dX6_carriedBy_22 kc0 ?_
      refine ii_lv [] rfl ?_
      cases h
      exact hjj_1
    · skip
      refine ii_iload_n 1 dX6_carriedBy_4 rfl ?_
      refine ii_aload_n 0 dX6_carriedBy_5 rfl ?_
      refine ii_get (C := RX6) (T := TX6) (N := 2) (ci := 6) izX6 0 rfl rfl 1 (by decide) kX6_9 rfl dX6_carriedBy_6 ?_
      refine ii_alen (v := (30 : Int32)) 1 0 rfl rfl rfl dX6_carriedBy_9 ?_
      refine ii_icmp_ge (tgt := 22) h dX6_carriedBy_10 (by decide) (fun h => ?_) (fun h => ?_)
      · skip
        refine ii_iconst dX6_carriedBy_22 kc0 ?_
        refine ii_lv [] rfl ?_
        cases h
        exact hjj_1
      · skip
        refine ii_aload_n 0 dX6_carriedBy_13 rfl ?_
        refine ii_get (C := RX6) (T := TX6) (N := 2) (ci := 6) izX6 0 rfl rfl 1 (by decide) kX6_9 rfl dX6_carriedBy_14 ?_
        refine ii_iload_n 1 dX6_carriedBy_17 rfl ?_
        refine ii_iald h 1 0 rfl rfl dX6_carriedBy_18 (fun t_2 h => ?_)
        refine ii_goto (tgt := 23) dX6_carriedBy_19 (by decide) ?_
        refine ii_lv [] rfl ?_
        cases h
        exact hjj_1
set_option maxHeartbeats 4000000 in
set_option maxRecDepth 100000 in
theorem c_X6_knownTo (l : Launch) (D : va_G) (cI cJ cZ cH : ClassId) (a_this a_this_carried a_this_house a_this_house_acts a_this_house_debts a_this_house_gates a_this_house_letters a_this_house_letters_cells a_this_house_loads a_this_house_mentions a_this_house_merchants a_this_house_payments a_this_house_prices a_this_house_purses a_this_house_stones a_this_house_texts a_this_house_told : Nat) (v_this_carried : Nat → Int32) (v_this_house_letters_cells : Nat → Int32) (v_this_house_letters_rows : Int32) (v_this_house_names : Int32) (v_this_house_narrow : Int32) (p0 : Int32) (p1 : Int32) {res : Int32} (h : F_X6_knownTo v_this_carried v_this_house_letters_cells v_this_house_letters_rows p0 p1 = some res) : CTi l yX6_knownTo wzX6_knownTo { frames := 2, cells := 0, slots := 0, locals := 46 } D [(cI, .int), (cJ, .long), (cZ, .boolean), (cH, .object "TinHouse$House")] [.ref a_this, .int p0, .int p1] [(a_this, .inr (6, [.ref a_this_house, .ref a_this_carried])), (a_this_carried, .inl (cI, 30, .inl v_this_carried)), (a_this_house, .inr (0, [.ref a_this_house_merchants, .ref a_this_house_texts, .ref a_this_house_acts, .ref a_this_house_debts, .ref a_this_house_payments, .ref a_this_house_purses, .ref a_this_house_gates, .ref a_this_house_stones, .ref a_this_house_told, .ref a_this_house_letters, .ref a_this_house_mentions, .ref a_this_house_loads, .ref a_this_house_prices, .int v_this_house_narrow, .int v_this_house_names])), (a_this_house_letters, .inr (8, [.int (5 : Int32), .int (30 : Int32), .ref a_this_house_letters_cells, .int v_this_house_letters_rows])), (a_this_house_letters_cells, .inl (cI, 150, .inl v_this_house_letters_cells))] res [(a_this, .inr (6, [.ref a_this_house, .ref a_this_carried])), (a_this_carried, .inl (cI, 30, .inl v_this_carried)), (a_this_house, .inr (0, [.ref a_this_house_merchants, .ref a_this_house_texts, .ref a_this_house_acts, .ref a_this_house_debts, .ref a_this_house_payments, .ref a_this_house_purses, .ref a_this_house_gates, .ref a_this_house_stones, .ref a_this_house_told, .ref a_this_house_letters, .ref a_this_house_mentions, .ref a_this_house_loads, .ref a_this_house_prices, .int v_this_house_narrow, .int v_this_house_names])), (a_this_house_letters, .inr (8, [.int (5 : Int32), .int (30 : Int32), .ref a_this_house_letters_cells, .int v_this_house_letters_rows])), (a_this_house_letters_cells, .inl (cI, 150, .inl v_this_house_letters_cells))] := by
  unfold F_X6_knownTo at h
  refine ii_metI (own := RX6) (lv0 := [(0, .ref a_this), (1, .int p0), (2, .int p1)]) (by decide) rfl rfl rfl (Nat.le_of_ble_eq_true rfl) (fun {p e s m args below meth c A Q} hQ => ?_)
  refine ii_iconst dX6_knownTo_0 kc0 ?_
  refine ii_istore_n (lv' := [(3, .int (0 : Int32)), (0, .ref a_this), (1, .int p0), (2, .int p1)]) dX6_knownTo_1 rfl (by decide) rfl ?_
  refine ii_iconst dX6_knownTo_2 kc0 ?_
  refine ii_istore (lv' := [(4, .int (0 : Int32)), (3, .int (0 : Int32)), (0, .ref a_this), (1, .int p0), (2, .int p1)]) dX6_knownTo_3 (by decide) rfl ?_
  refine ii_lv [2, 3, 4, 1, 0] rfl ?_
  obtain ⟨x_2, hl_1, h⟩ := bnd h
  refine ii_loopX (fun s_1 => [(a_this, .inr (6, [.ref a_this_house, .ref a_this_carried])), (a_this_carried, .inl (cI, 30, .inl v_this_carried)), (a_this_house, .inr (0, [.ref a_this_house_merchants, .ref a_this_house_texts, .ref a_this_house_acts, .ref a_this_house_debts, .ref a_this_house_payments, .ref a_this_house_purses, .ref a_this_house_gates, .ref a_this_house_stones, .ref a_this_house_told, .ref a_this_house_letters, .ref a_this_house_mentions, .ref a_this_house_loads, .ref a_this_house_prices, .int v_this_house_narrow, .int v_this_house_names])), (a_this_house_letters, .inr (8, [.int (5 : Int32), .int (30 : Int32), .ref a_this_house_letters_cells, .int v_this_house_letters_rows])), (a_this_house_letters_cells, .inl (cI, 150, .inl v_this_house_letters_cells))]) (fun s_1 => [(0, .ref a_this), (1, .int p0), (2, .int p1), (3, .int s_1.1), (4, .int s_1.2)]) (fun x_2 => [(a_this, .inr (6, [.ref a_this_house, .ref a_this_carried])), (a_this_carried, .inl (cI, 30, .inl v_this_carried)), (a_this_house, .inr (0, [.ref a_this_house_merchants, .ref a_this_house_texts, .ref a_this_house_acts, .ref a_this_house_debts, .ref a_this_house_payments, .ref a_this_house_purses, .ref a_this_house_gates, .ref a_this_house_stones, .ref a_this_house_told, .ref a_this_house_letters, .ref a_this_house_mentions, .ref a_this_house_loads, .ref a_this_house_prices, .int v_this_house_narrow, .int v_this_house_names])), (a_this_house_letters, .inr (8, [.int (5 : Int32), .int (30 : Int32), .ref a_this_house_letters_cells, .int v_this_house_letters_rows])), (a_this_house_letters_cells, .inl (cI, 150, .inl v_this_house_letters_cells))]) (fun x_2 => [(3, .int x_2.1)]) 135 hl_1 rfl rfl ?_ (fun s_1 o h hb_1 hr_1 hx_1 => ?_)
  · skip
    refine ii_iload_n 0 dX6_knownTo_135 rfl ?_
    cases h
    exact hQ _ _ dX6_knownTo_136
  · skip
    refine ii_iload 4 dX6_knownTo_5 rfl ?_
    refine ii_aload_n 0 dX6_knownTo_7 rfl ?_
    refine ii_get (C := RX6) (T := TX6) (N := 2) (ci := 6) izX6 0 rfl rfl 0 (by decide) kX6_15 rfl dX6_knownTo_8 ?_
    refine ii_get (C := RX0) (T := TX0) (N := 15) (ci := 0) izX0 2 rfl rfl 9 (by decide) kX6_25 rfl dX6_knownTo_11 ?_
    refine ii_get (C := RX8) (T := TX8) (N := 4) (ci := 8) izX8 3 rfl rfl 3 (by decide) kX6_31 rfl dX6_knownTo_14 ?_
    refine ii_icmp_ge (tgt := 135) h dX6_knownTo_17 (by decide) (fun h => ?_) (fun h => ?_)
    · skip
      refine ii_lv [3] rfl ?_
      cases h
      exact hx_1 (s_1.1, s_1.2) (hr_1 _ rfl)
    · skip
      refine ii_aload_n 0 dX6_knownTo_20 rfl ?_
      refine ii_get (C := RX6) (T := TX6) (N := 2) (ci := 6) izX6 0 rfl rfl 0 (by decide) kX6_15 rfl dX6_knownTo_21 ?_
      refine ii_get (C := RX0) (T := TX0) (N := 15) (ci := 0) izX0 2 rfl rfl 9 (by decide) kX6_25 rfl dX6_knownTo_24 ?_
      refine ii_iload 4 dX6_knownTo_27 rfl ?_
      refine ii_iconst dX6_knownTo_29 kc0 ?_
      obtain ⟨c_3, hc_3, h⟩ := bnd h
      refine ii_callVi (As := [.int s_1.2, .int (0 : Int32)]) (ws' := [(a_this, .inr (6, [.ref a_this_house, .ref a_this_carried])), (a_this_carried, .inl (cI, 30, .inl v_this_carried)), (a_this_house, .inr (0, [.ref a_this_house_merchants, .ref a_this_house_texts, .ref a_this_house_acts, .ref a_this_house_debts, .ref a_this_house_payments, .ref a_this_house_purses, .ref a_this_house_gates, .ref a_this_house_stones, .ref a_this_house_told, .ref a_this_house_letters, .ref a_this_house_mentions, .ref a_this_house_loads, .ref a_this_house_prices, .int v_this_house_narrow, .int v_this_house_names])), (a_this_house_letters, .inr (8, [.int (5 : Int32), .int (30 : Int32), .ref a_this_house_letters_cells, .int v_this_house_letters_rows])), (a_this_house_letters_cells, .inl (cI, 150, .inl v_this_house_letters_cells))]) (st := []) (c_X8_get l D cI cJ cZ cH a_this_house_letters a_this_house_letters_cells 150 v_this_house_letters_cells (30 : Int32) v_this_house_letters_rows (5 : Int32) s_1.2 (0 : Int32) hc_3) gzX6_37 rfl rfl rfl eV_X8_get ⟨Nat.le_of_ble_eq_true rfl, Nat.le_of_ble_eq_true rfl⟩ rfl 3 rfl rfl [3, 4] rfl rfl rfl rfl rfl (Nat.le_of_ble_eq_true rfl) (Nat.le_refl _) (Nat.le_refl _) rfl dX6_knownTo_30 ?_
      refine ii_iload_n 1 dX6_knownTo_33 rfl ?_
      refine ii_jn h (fun j_4 => [(a_this, .inr (6, [.ref a_this_house, .ref a_this_carried])), (a_this_carried, .inl (cI, 30, .inl v_this_carried)), (a_this_house, .inr (0, [.ref a_this_house_merchants, .ref a_this_house_texts, .ref a_this_house_acts, .ref a_this_house_debts, .ref a_this_house_payments, .ref a_this_house_purses, .ref a_this_house_gates, .ref a_this_house_stones, .ref a_this_house_told, .ref a_this_house_letters, .ref a_this_house_mentions, .ref a_this_house_loads, .ref a_this_house_prices, .int v_this_house_narrow, .int v_this_house_names])), (a_this_house_letters, .inr (8, [.int (5 : Int32), .int (30 : Int32), .ref a_this_house_letters_cells, .int v_this_house_letters_rows])), (a_this_house_letters_cells, .inl (cI, 150, .inl v_this_house_letters_cells))]) (fun j_4 => [(0, .ref a_this), (1, .int p0), (2, .int p1), (3, .int j_4), (4, .int s_1.2)]) 86 (fun j_4 => []) (fun j_4 h => ?_) (fun j_4 h hjj_4 => ?_)
      · skip
        refine ii_aload_n 0 dX6_knownTo_86 rfl ?_
        refine ii_get (C := RX6) (T := TX6) (N := 2) (ci := 6) izX6 0 rfl rfl 0 (by decide) kX6_15 rfl dX6_knownTo_87 ?_
        refine ii_get (C := RX0) (T := TX0) (N := 15) (ci := 0) izX0 2 rfl rfl 9 (by decide) kX6_25 rfl dX6_knownTo_90 ?_
        refine ii_iload 4 dX6_knownTo_93 rfl ?_
        refine ii_iconst dX6_knownTo_95 kc1 ?_
        obtain ⟨c_9, hc_9, h⟩ := bnd h
        refine ii_callVi (As := [.int s_1.2, .int (1 : Int32)]) (ws' := [(a_this, .inr (6, [.ref a_this_house, .ref a_this_carried])), (a_this_carried, .inl (cI, 30, .inl v_this_carried)), (a_this_house, .inr (0, [.ref a_this_house_merchants, .ref a_this_house_texts, .ref a_this_house_acts, .ref a_this_house_debts, .ref a_this_house_payments, .ref a_this_house_purses, .ref a_this_house_gates, .ref a_this_house_stones, .ref a_this_house_told, .ref a_this_house_letters, .ref a_this_house_mentions, .ref a_this_house_loads, .ref a_this_house_prices, .int v_this_house_narrow, .int v_this_house_names])), (a_this_house_letters, .inr (8, [.int (5 : Int32), .int (30 : Int32), .ref a_this_house_letters_cells, .int v_this_house_letters_rows])), (a_this_house_letters_cells, .inl (cI, 150, .inl v_this_house_letters_cells))]) (st := []) (c_X8_get l D cI cJ cZ cH a_this_house_letters a_this_house_letters_cells 150 v_this_house_letters_cells (30 : Int32) v_this_house_letters_rows (5 : Int32) s_1.2 (1 : Int32) hc_9) gzX6_37 rfl rfl rfl eV_X8_get ⟨Nat.le_of_ble_eq_true rfl, Nat.le_of_ble_eq_true rfl⟩ rfl 3 rfl rfl [3, 4] rfl rfl rfl rfl rfl (Nat.le_of_ble_eq_true rfl) (Nat.le_refl _) (Nat.le_refl _) rfl dX6_knownTo_96 ?_
        refine ii_iload_n 1 dX6_knownTo_99 rfl ?_
        refine ii_jn h (fun j_10 => [(a_this, .inr (6, [.ref a_this_house, .ref a_this_carried])), (a_this_carried, .inl (cI, 30, .inl v_this_carried)), (a_this_house, .inr (0, [.ref a_this_house_merchants, .ref a_this_house_texts, .ref a_this_house_acts, .ref a_this_house_debts, .ref a_this_house_payments, .ref a_this_house_purses, .ref a_this_house_gates, .ref a_this_house_stones, .ref a_this_house_told, .ref a_this_house_letters, .ref a_this_house_mentions, .ref a_this_house_loads, .ref a_this_house_prices, .int v_this_house_narrow, .int v_this_house_names])), (a_this_house_letters, .inr (8, [.int (5 : Int32), .int (30 : Int32), .ref a_this_house_letters_cells, .int v_this_house_letters_rows])), (a_this_house_letters_cells, .inl (cI, 150, .inl v_this_house_letters_cells))]) (fun j_10 => [(0, .ref a_this), (1, .int p0), (2, .int p1), (3, .int j_10), (4, .int s_1.2)]) 129 (fun j_10 => []) (fun j_10 h => ?_) (fun j_10 h hjj_10 => ?_)
        · skip
          refine ii_iinc (fun x_14 => [(4, .int x_14), (0, .ref a_this), (1, .int p0), (2, .int p1), (3, .int j_10)]) h 4 dX6_knownTo_129 rfl kc1 (by decide) (fun _ => rfl) (fun x_14 h => ?_)
          refine ii_goto (tgt := 5) dX6_knownTo_132 (by decide) ?_
          refine ii_lv [1, 2, 3, 4, 0] rfl ?_
          cases h
          exact hb_1 (j_10, x_14) rfl
        · skip
          refine ii_icmp_ne (tgt := 129) h dX6_knownTo_100 (by decide) (fun h => ?_) (fun h => ?_)
          · skip
            cases h
            exact hjj_10
          · skip
            refine ii_aload_n 0 dX6_knownTo_103 rfl ?_
            refine ii_get (C := RX6) (T := TX6) (N := 2) (ci := 6) izX6 0 rfl rfl 0 (by decide) kX6_15 rfl dX6_knownTo_104 ?_
            refine ii_get (C := RX0) (T := TX0) (N := 15) (ci := 0) izX0 2 rfl rfl 9 (by decide) kX6_25 rfl dX6_knownTo_107 ?_
            refine ii_iload 4 dX6_knownTo_110 rfl ?_
            refine ii_iconst dX6_knownTo_112 kc3 ?_
            obtain ⟨c_11, hc_11, h⟩ := bnd h
            refine ii_callVi (As := [.int s_1.2, .int (3 : Int32)]) (ws' := [(a_this, .inr (6, [.ref a_this_house, .ref a_this_carried])), (a_this_carried, .inl (cI, 30, .inl v_this_carried)), (a_this_house, .inr (0, [.ref a_this_house_merchants, .ref a_this_house_texts, .ref a_this_house_acts, .ref a_this_house_debts, .ref a_this_house_payments, .ref a_this_house_purses, .ref a_this_house_gates, .ref a_this_house_stones, .ref a_this_house_told, .ref a_this_house_letters, .ref a_this_house_mentions, .ref a_this_house_loads, .ref a_this_house_prices, .int v_this_house_narrow, .int v_this_house_names])), (a_this_house_letters, .inr (8, [.int (5 : Int32), .int (30 : Int32), .ref a_this_house_letters_cells, .int v_this_house_letters_rows])), (a_this_house_letters_cells, .inl (cI, 150, .inl v_this_house_letters_cells))]) (st := []) (c_X8_get l D cI cJ cZ cH a_this_house_letters a_this_house_letters_cells 150 v_this_house_letters_cells (30 : Int32) v_this_house_letters_rows (5 : Int32) s_1.2 (3 : Int32) hc_11) gzX6_37 rfl rfl rfl eV_X8_get ⟨Nat.le_of_ble_eq_true rfl, Nat.le_of_ble_eq_true rfl⟩ rfl 3 rfl rfl [3, 4] rfl rfl rfl rfl rfl (Nat.le_of_ble_eq_true rfl) (Nat.le_refl _) (Nat.le_refl _) rfl dX6_knownTo_113 ?_
            refine ii_iload_n 2 dX6_knownTo_116 rfl ?_
            refine ii_icmp_gt (tgt := 129) h dX6_knownTo_117 (by decide) (fun h => ?_) (fun h => ?_)
            · skip
              cases h
              exact hjj_10
            · skip
              refine ii_iload_n 3 dX6_knownTo_120 rfl ?_
              refine ii_aload_n 0 dX6_knownTo_121 rfl ?_
              refine ii_iload 4 dX6_knownTo_122 rfl ?_
              obtain ⟨c_12, hc_12, h⟩ := bnd h
              refine ii_callVi (As := [.int s_1.2]) (ws' := [(a_this, .inr (6, [.ref a_this_house, .ref a_this_carried])), (a_this_carried, .inl (cI, 30, .inl v_this_carried)), (a_this_house, .inr (0, [.ref a_this_house_merchants, .ref a_this_house_texts, .ref a_this_house_acts, .ref a_this_house_debts, .ref a_this_house_payments, .ref a_this_house_purses, .ref a_this_house_gates, .ref a_this_house_stones, .ref a_this_house_told, .ref a_this_house_letters, .ref a_this_house_mentions, .ref a_this_house_loads, .ref a_this_house_prices, .int v_this_house_narrow, .int v_this_house_names])), (a_this_house_letters, .inr (8, [.int (5 : Int32), .int (30 : Int32), .ref a_this_house_letters_cells, .int v_this_house_letters_rows])), (a_this_house_letters_cells, .inl (cI, 150, .inl v_this_house_letters_cells))]) (st := [.int j_4]) (c_X6_carriedBy l D cI cJ cZ cH a_this a_this_carried a_this_house v_this_carried s_1.2 hc_12) gzX6_44 rfl rfl rfl eV_X6_carriedBy ⟨Nat.le_of_ble_eq_true rfl, Nat.le_of_ble_eq_true rfl⟩ rfl 0 rfl rfl [0, 1] rfl rfl rfl rfl rfl (Nat.le_of_ble_eq_true rfl) (Nat.le_refl _) (Nat.le_refl _) rfl dX6_knownTo_124 ?_
              refine ii_ior dX6_knownTo_127 ?_
              refine ii_topI h (fun x_13 h => ?_)
              refine ii_istore_n (lv' := [(3, .int x_13), (0, .ref a_this), (1, .int p0), (2, .int p1), (4, .int s_1.2)]) dX6_knownTo_128 rfl (by decide) rfl ?_
              refine ii_lv [1, 2, 3, 0, 4] rfl ?_
              cases h
              exact hjj_10
      · skip
        refine ii_icmp_ne (tgt := 86) h dX6_knownTo_34 (by decide) (fun h => ?_) (fun h => ?_)
        · skip
          cases h
          exact hjj_4
        · skip
          refine ii_aload_n 0 dX6_knownTo_37 rfl ?_
          refine ii_get (C := RX6) (T := TX6) (N := 2) (ci := 6) izX6 0 rfl rfl 0 (by decide) kX6_15 rfl dX6_knownTo_38 ?_
          refine ii_get (C := RX0) (T := TX0) (N := 15) (ci := 0) izX0 2 rfl rfl 9 (by decide) kX6_25 rfl dX6_knownTo_41 ?_
          refine ii_iload 4 dX6_knownTo_44 rfl ?_
          refine ii_iconst dX6_knownTo_46 kc2 ?_
          obtain ⟨c_5, hc_5, h⟩ := bnd h
          refine ii_callVi (As := [.int s_1.2, .int (2 : Int32)]) (ws' := [(a_this, .inr (6, [.ref a_this_house, .ref a_this_carried])), (a_this_carried, .inl (cI, 30, .inl v_this_carried)), (a_this_house, .inr (0, [.ref a_this_house_merchants, .ref a_this_house_texts, .ref a_this_house_acts, .ref a_this_house_debts, .ref a_this_house_payments, .ref a_this_house_purses, .ref a_this_house_gates, .ref a_this_house_stones, .ref a_this_house_told, .ref a_this_house_letters, .ref a_this_house_mentions, .ref a_this_house_loads, .ref a_this_house_prices, .int v_this_house_narrow, .int v_this_house_names])), (a_this_house_letters, .inr (8, [.int (5 : Int32), .int (30 : Int32), .ref a_this_house_letters_cells, .int v_this_house_letters_rows])), (a_this_house_letters_cells, .inl (cI, 150, .inl v_this_house_letters_cells))]) (st := []) (c_X8_get l D cI cJ cZ cH a_this_house_letters a_this_house_letters_cells 150 v_this_house_letters_cells (30 : Int32) v_this_house_letters_rows (5 : Int32) s_1.2 (2 : Int32) hc_5) gzX6_37 rfl rfl rfl eV_X8_get ⟨Nat.le_of_ble_eq_true rfl, Nat.le_of_ble_eq_true rfl⟩ rfl 3 rfl rfl [3, 4] rfl rfl rfl rfl rfl (Nat.le_of_ble_eq_true rfl) (Nat.le_refl _) (Nat.le_refl _) rfl dX6_knownTo_47 ?_
          refine ii_iload_n 2 dX6_knownTo_50 rfl ?_
          refine ii_icmp_gt (tgt := 86) h dX6_knownTo_51 (by decide) (fun h => ?_) (fun h => ?_)
          · skip
            cases h
            exact hjj_4
          · skip
            refine ii_aload_n 0 dX6_knownTo_54 rfl ?_
            refine ii_get (C := RX6) (T := TX6) (N := 2) (ci := 6) izX6 0 rfl rfl 0 (by decide) kX6_15 rfl dX6_knownTo_55 ?_
            refine ii_get (C := RX0) (T := TX0) (N := 15) (ci := 0) izX0 2 rfl rfl 9 (by decide) kX6_25 rfl dX6_knownTo_58 ?_
            refine ii_iload 4 dX6_knownTo_61 rfl ?_
            refine ii_iconst dX6_knownTo_63 kc4 ?_
            obtain ⟨c_6, hc_6, h⟩ := bnd h
            refine ii_callVi (As := [.int s_1.2, .int (4 : Int32)]) (ws' := [(a_this, .inr (6, [.ref a_this_house, .ref a_this_carried])), (a_this_carried, .inl (cI, 30, .inl v_this_carried)), (a_this_house, .inr (0, [.ref a_this_house_merchants, .ref a_this_house_texts, .ref a_this_house_acts, .ref a_this_house_debts, .ref a_this_house_payments, .ref a_this_house_purses, .ref a_this_house_gates, .ref a_this_house_stones, .ref a_this_house_told, .ref a_this_house_letters, .ref a_this_house_mentions, .ref a_this_house_loads, .ref a_this_house_prices, .int v_this_house_narrow, .int v_this_house_names])), (a_this_house_letters, .inr (8, [.int (5 : Int32), .int (30 : Int32), .ref a_this_house_letters_cells, .int v_this_house_letters_rows])), (a_this_house_letters_cells, .inl (cI, 150, .inl v_this_house_letters_cells))]) (st := []) (c_X8_get l D cI cJ cZ cH a_this_house_letters a_this_house_letters_cells 150 v_this_house_letters_cells (30 : Int32) v_this_house_letters_rows (5 : Int32) s_1.2 (4 : Int32) hc_6) gzX6_37 rfl rfl rfl eV_X8_get ⟨Nat.le_of_ble_eq_true rfl, Nat.le_of_ble_eq_true rfl⟩ rfl 3 rfl rfl [3, 4] rfl rfl rfl rfl rfl (Nat.le_of_ble_eq_true rfl) (Nat.le_refl _) (Nat.le_refl _) rfl dX6_knownTo_64 ?_
            refine ii_istore (lv' := [(5, .int c_6), (0, .ref a_this), (1, .int p0), (2, .int p1), (3, .int s_1.1), (4, .int s_1.2)]) dX6_knownTo_67 (by decide) rfl ?_
            refine ii_iload_n 4 dX6_knownTo_69 rfl ?_
            refine ii_iload 0 dX6_knownTo_70 rfl ?_
            refine ii_iconst dX6_knownTo_72 kcm1 ?_
            refine ii_jn h (fun j_7 => [(a_this, .inr (6, [.ref a_this_house, .ref a_this_carried])), (a_this_carried, .inl (cI, 30, .inl v_this_carried)), (a_this_house, .inr (0, [.ref a_this_house_merchants, .ref a_this_house_texts, .ref a_this_house_acts, .ref a_this_house_debts, .ref a_this_house_payments, .ref a_this_house_purses, .ref a_this_house_gates, .ref a_this_house_stones, .ref a_this_house_told, .ref a_this_house_letters, .ref a_this_house_mentions, .ref a_this_house_loads, .ref a_this_house_prices, .int v_this_house_narrow, .int v_this_house_names])), (a_this_house_letters, .inr (8, [.int (5 : Int32), .int (30 : Int32), .ref a_this_house_letters_cells, .int v_this_house_letters_rows])), (a_this_house_letters_cells, .inl (cI, 150, .inl v_this_house_letters_cells))]) (fun j_7 => [(0, .ref a_this), (1, .int p0), (2, .int p1), (4, .int s_1.2)]) 84 (fun j_7 => [.int j_7, .int s_1.1]) (fun j_7 h => ?_) (fun j_7 h hjj_7 => ?_)
            · skip
              refine ii_ior dX6_knownTo_84 ?_
              refine ii_topI h (fun x_8 h => ?_)
              refine ii_istore_n (lv' := [(3, .int x_8), (0, .ref a_this), (1, .int p0), (2, .int p1), (4, .int s_1.2)]) dX6_knownTo_85 rfl (by decide) rfl ?_
              refine ii_lv [1, 2, 3, 0, 4] rfl ?_
              cases h
              exact hjj_4
            · skip
              refine ii_icmp_ne (tgt := 80) h dX6_knownTo_73 (by decide) (fun h => ?_) (fun h => ?_)
              · skip
                refine ii_iconst dX6_knownTo_80 kc1 ?_
                refine ii_iload 0 dX6_knownTo_81 rfl ?_
                refine ii_ishl dX6_knownTo_83 ?_
                refine ii_lv [1, 2, 3, 5] rfl ?_
                cases h
                exact hjj_7
              · skip
                refine ii_iconst dX6_knownTo_76 kc0 ?_
                refine ii_goto (tgt := 84) dX6_knownTo_77 (by decide) ?_
                refine ii_lv [1, 2, 3, 5] rfl ?_
                cases h
                exact hjj_7
set_option maxHeartbeats 4000000 in
set_option maxRecDepth 100000 in
theorem c_X6_fill (l : Launch) (D : va_G) (cI cJ cZ cH : ClassId) (a_this a_this_carried a_this_house a_this_house_acts a_this_house_debts a_this_house_gates a_this_house_letters a_this_house_letters_cells a_this_house_loads a_this_house_mentions a_this_house_merchants a_this_house_payments a_this_house_prices a_this_house_purses a_this_house_stones a_this_house_texts a_this_house_told : Nat) (v_this_carried : Nat → Int32) (v_this_house_letters_cells : Nat → Int32) (v_this_house_letters_rows : Int32) (v_this_house_names : Int32) (v_this_house_narrow : Int32) {res : (Nat → Int32)} (h : F_X6_fill v_this_carried v_this_house_letters_cells v_this_house_letters_rows = some res) : CTv l yX6_fill wzX6_fill { frames := 3, cells := 0, slots := 0, locals := 71 } D [(cI, .int), (cJ, .long), (cZ, .boolean), (cH, .object "TinHouse$House")] [.ref a_this] [(a_this, .inr (6, [.ref a_this_house, .ref a_this_carried])), (a_this_carried, .inl (cI, 30, .inl v_this_carried)), (a_this_house, .inr (0, [.ref a_this_house_merchants, .ref a_this_house_texts, .ref a_this_house_acts, .ref a_this_house_debts, .ref a_this_house_payments, .ref a_this_house_purses, .ref a_this_house_gates, .ref a_this_house_stones, .ref a_this_house_told, .ref a_this_house_letters, .ref a_this_house_mentions, .ref a_this_house_loads, .ref a_this_house_prices, .int v_this_house_narrow, .int v_this_house_names])), (a_this_house_letters, .inr (8, [.int (5 : Int32), .int (30 : Int32), .ref a_this_house_letters_cells, .int v_this_house_letters_rows])), (a_this_house_letters_cells, .inl (cI, 150, .inl v_this_house_letters_cells))] [(a_this, .inr (6, [.ref a_this_house, .ref a_this_carried])), (a_this_carried, .inl (cI, 30, .inl res)), (a_this_house, .inr (0, [.ref a_this_house_merchants, .ref a_this_house_texts, .ref a_this_house_acts, .ref a_this_house_debts, .ref a_this_house_payments, .ref a_this_house_purses, .ref a_this_house_gates, .ref a_this_house_stones, .ref a_this_house_told, .ref a_this_house_letters, .ref a_this_house_mentions, .ref a_this_house_loads, .ref a_this_house_prices, .int v_this_house_narrow, .int v_this_house_names])), (a_this_house_letters, .inr (8, [.int (5 : Int32), .int (30 : Int32), .ref a_this_house_letters_cells, .int v_this_house_letters_rows])), (a_this_house_letters_cells, .inl (cI, 150, .inl v_this_house_letters_cells))] := by
  unfold F_X6_fill at h
  refine ii_metV (own := RX6) (lv0 := [(0, .ref a_this)]) (by decide) rfl rfl rfl (Nat.le_of_ble_eq_true rfl) (fun {p e s m args below meth c A Q} hQ => ?_)
  refine ii_aload_n 0 dX6_fill_0 rfl ?_
  refine ii_get (C := RX6) (T := TX6) (N := 2) (ci := 6) izX6 0 rfl rfl 1 (by decide) kX6_9 rfl dX6_fill_1 ?_
  refine ii_iconst dX6_fill_4 kc0 ?_
  obtain ⟨c_1, hc_1, h⟩ := bnd h
  refine ii_callJv (As := [.ref a_this_carried, .int (0 : Int32)]) (ws' := [(a_this, .inr (6, [.ref a_this_house, .ref a_this_carried])), (a_this_carried, .inl (cI, 30, .inl c_1)), (a_this_house, .inr (0, [.ref a_this_house_merchants, .ref a_this_house_texts, .ref a_this_house_acts, .ref a_this_house_debts, .ref a_this_house_payments, .ref a_this_house_purses, .ref a_this_house_gates, .ref a_this_house_stones, .ref a_this_house_told, .ref a_this_house_letters, .ref a_this_house_mentions, .ref a_this_house_loads, .ref a_this_house_prices, .int v_this_house_narrow, .int v_this_house_names])), (a_this_house_letters, .inr (8, [.int (5 : Int32), .int (30 : Int32), .ref a_this_house_letters_cells, .int v_this_house_letters_rows])), (a_this_house_letters_cells, .inl (cI, 150, .inl v_this_house_letters_cells))]) (st := []) (c_J7_fill_53178 l D cI cJ cZ cH a_this_carried 30 v_this_carried (0 : Int32) hc_1) gzX6_19 rfl rfl rfl eJ_J7_fill_53178 ⟨Nat.le_of_ble_eq_true rfl, Nat.le_of_ble_eq_true rfl⟩ rfl [1] rfl rfl rfl rfl rfl (Nat.le_of_ble_eq_true rfl) (Nat.le_refl _) (Nat.le_refl _) rfl dX6_fill_5 ?_
  refine ii_iconst dX6_fill_8 kc1 ?_
  refine ii_istore_n (lv' := [(1, .int (1 : Int32)), (0, .ref a_this)]) dX6_fill_9 rfl (by decide) rfl ?_
  refine ii_iconst dX6_fill_10 kc0 ?_
  refine ii_istore_n (lv' := [(2, .int (0 : Int32)), (1, .int (1 : Int32)), (0, .ref a_this)]) dX6_fill_11 rfl (by decide) rfl ?_
  refine ii_lv [2, 1, 0] rfl ?_
  obtain ⟨x_3, hl_2, h⟩ := bnd h
  refine ii_loopX (fun s_2 => [(a_this, .inr (6, [.ref a_this_house, .ref a_this_carried])), (a_this_carried, .inl (cI, 30, .inl s_2.2.2)), (a_this_house, .inr (0, [.ref a_this_house_merchants, .ref a_this_house_texts, .ref a_this_house_acts, .ref a_this_house_debts, .ref a_this_house_payments, .ref a_this_house_purses, .ref a_this_house_gates, .ref a_this_house_stones, .ref a_this_house_told, .ref a_this_house_letters, .ref a_this_house_mentions, .ref a_this_house_loads, .ref a_this_house_prices, .int v_this_house_narrow, .int v_this_house_names])), (a_this_house_letters, .inr (8, [.int (5 : Int32), .int (30 : Int32), .ref a_this_house_letters_cells, .int v_this_house_letters_rows])), (a_this_house_letters_cells, .inl (cI, 150, .inl v_this_house_letters_cells))]) (fun s_2 => [(0, .ref a_this), (1, .int s_2.1), (2, .int s_2.2.1)]) (fun x_3 => [(a_this, .inr (6, [.ref a_this_house, .ref a_this_carried])), (a_this_carried, .inl (cI, 30, .inl x_3.2.2)), (a_this_house, .inr (0, [.ref a_this_house_merchants, .ref a_this_house_texts, .ref a_this_house_acts, .ref a_this_house_debts, .ref a_this_house_payments, .ref a_this_house_purses, .ref a_this_house_gates, .ref a_this_house_stones, .ref a_this_house_told, .ref a_this_house_letters, .ref a_this_house_mentions, .ref a_this_house_loads, .ref a_this_house_prices, .int v_this_house_narrow, .int v_this_house_names])), (a_this_house_letters, .inr (8, [.int (5 : Int32), .int (30 : Int32), .ref a_this_house_letters_cells, .int v_this_house_letters_rows])), (a_this_house_letters_cells, .inl (cI, 150, .inl v_this_house_letters_cells))]) (fun x_3 => []) 125 hl_2 rfl rfl ?_ (fun s_2 o h hb_2 hr_2 hx_2 => ?_)
  · skip
    cases h
    exact hQ _ _ dX6_fill_125
  · skip
    refine ii_iload_n 2 dX6_fill_12 rfl ?_
    refine ii_sipush dX6_fill_13 ks241 ?_
    refine ii_icmp_ge (tgt := 125) h dX6_fill_16 (by decide) (fun h => ?_) (fun h => ?_)
    · skip
      refine ii_lv [] rfl ?_
      cases h
      exact hx_2 (s_2.1, s_2.2.1, s_2.2.2) (hr_2 _ rfl)
    · skip
      refine ii_iload_n 1 dX6_fill_19 rfl ?_
      refine ii_if_eq (tgt := 125) h dX6_fill_20 (by decide) (fun h => ?_) (fun h => ?_)
      · skip
        refine ii_lv [] rfl ?_
        cases h
        exact hx_2 (s_2.1, s_2.2.1, s_2.2.2) (hr_2 _ rfl)
      · skip
        refine ii_iconst dX6_fill_23 kc0 ?_
        refine ii_istore_n (lv' := [(1, .int (0 : Int32)), (0, .ref a_this), (2, .int s_2.2.1)]) dX6_fill_24 rfl (by decide) rfl ?_
        refine ii_iconst dX6_fill_25 kc0 ?_
        refine ii_istore_n (lv' := [(3, .int (0 : Int32)), (1, .int (0 : Int32)), (0, .ref a_this), (2, .int s_2.2.1)]) dX6_fill_26 rfl (by decide) rfl ?_
        refine ii_lv [2, 1, 3, 0] rfl ?_
        obtain ⟨x_5, hl_4, h⟩ := bnd h
        refine ii_loopX (fun s_4 => [(a_this, .inr (6, [.ref a_this_house, .ref a_this_carried])), (a_this_carried, .inl (cI, 30, .inl s_4.2.2)), (a_this_house, .inr (0, [.ref a_this_house_merchants, .ref a_this_house_texts, .ref a_this_house_acts, .ref a_this_house_debts, .ref a_this_house_payments, .ref a_this_house_purses, .ref a_this_house_gates, .ref a_this_house_stones, .ref a_this_house_told, .ref a_this_house_letters, .ref a_this_house_mentions, .ref a_this_house_loads, .ref a_this_house_prices, .int v_this_house_narrow, .int v_this_house_names])), (a_this_house_letters, .inr (8, [.int (5 : Int32), .int (30 : Int32), .ref a_this_house_letters_cells, .int v_this_house_letters_rows])), (a_this_house_letters_cells, .inl (cI, 150, .inl v_this_house_letters_cells))]) (fun s_4 => [(0, .ref a_this), (1, .int s_4.1), (2, .int s_2.2.1), (3, .int s_4.2.1)]) (fun x_5 => [(a_this, .inr (6, [.ref a_this_house, .ref a_this_carried])), (a_this_carried, .inl (cI, 30, .inl x_5.2.2)), (a_this_house, .inr (0, [.ref a_this_house_merchants, .ref a_this_house_texts, .ref a_this_house_acts, .ref a_this_house_debts, .ref a_this_house_payments, .ref a_this_house_purses, .ref a_this_house_gates, .ref a_this_house_stones, .ref a_this_house_told, .ref a_this_house_letters, .ref a_this_house_mentions, .ref a_this_house_loads, .ref a_this_house_prices, .int v_this_house_narrow, .int v_this_house_names])), (a_this_house_letters, .inr (8, [.int (5 : Int32), .int (30 : Int32), .ref a_this_house_letters_cells, .int v_this_house_letters_rows])), (a_this_house_letters_cells, .inl (cI, 150, .inl v_this_house_letters_cells))]) (fun x_5 => [(0, .ref a_this), (1, .int x_5.1), (2, .int s_2.2.1)]) 119 hl_4 rfl rfl ?_ (fun s_4 o h hb_4 hr_4 hx_4 => ?_)
        · skip
          refine ii_iinc (fun x_13 => [(2, .int x_13), (0, .ref a_this), (1, .int x_5.1)]) h 2 dX6_fill_119 rfl kc1 (by decide) (fun _ => rfl) (fun x_13 h => ?_)
          refine ii_goto (tgt := 12) dX6_fill_122 (by decide) ?_
          refine ii_lv [1, 2, 0] rfl ?_
          cases h
          exact hb_2 (x_5.1, x_13, x_5.2.2) rfl
        · skip
          refine ii_iload_n 3 dX6_fill_27 rfl ?_
          refine ii_aload_n 0 dX6_fill_28 rfl ?_
          refine ii_get (C := RX6) (T := TX6) (N := 2) (ci := 6) izX6 0 rfl rfl 0 (by decide) kX6_15 rfl dX6_fill_29 ?_
          refine ii_get (C := RX0) (T := TX0) (N := 15) (ci := 0) izX0 2 rfl rfl 9 (by decide) kX6_25 rfl dX6_fill_32 ?_
          refine ii_get (C := RX8) (T := TX8) (N := 4) (ci := 8) izX8 3 rfl rfl 3 (by decide) kX6_31 rfl dX6_fill_35 ?_
          refine ii_icmp_ge (tgt := 119) h dX6_fill_38 (by decide) (fun h => ?_) (fun h => ?_)
          · skip
            refine ii_lv [0, 1, 2] rfl ?_
            cases h
            exact hx_4 (s_4.1, s_4.2.1, s_4.2.2) (hr_4 _ rfl)
          · skip
            refine ii_iload_n 3 dX6_fill_41 rfl ?_
            refine ii_aload_n 0 dX6_fill_42 rfl ?_
            refine ii_get (C := RX6) (T := TX6) (N := 2) (ci := 6) izX6 0 rfl rfl 1 (by decide) kX6_9 rfl dX6_fill_43 ?_
            refine ii_alen (v := (30 : Int32)) 1 0 rfl rfl rfl dX6_fill_46 ?_
            refine ii_icmp_ge (tgt := 119) h dX6_fill_47 (by decide) (fun h => ?_) (fun h => ?_)
            · skip
              refine ii_lv [0, 1, 2] rfl ?_
              cases h
              exact hx_4 (s_4.1, s_4.2.1, s_4.2.2) (hr_4 _ rfl)
            · skip
              refine ii_aload_n 0 dX6_fill_50 rfl ?_
              refine ii_get (C := RX6) (T := TX6) (N := 2) (ci := 6) izX6 0 rfl rfl 0 (by decide) kX6_15 rfl dX6_fill_51 ?_
              refine ii_get (C := RX0) (T := TX0) (N := 15) (ci := 0) izX0 2 rfl rfl 9 (by decide) kX6_25 rfl dX6_fill_54 ?_
              refine ii_iload_n 3 dX6_fill_57 rfl ?_
              refine ii_iconst dX6_fill_58 kc0 ?_
              obtain ⟨c_6, hc_6, h⟩ := bnd h
              refine ii_callVi (As := [.int s_4.2.1, .int (0 : Int32)]) (ws' := [(a_this, .inr (6, [.ref a_this_house, .ref a_this_carried])), (a_this_carried, .inl (cI, 30, .inl s_4.2.2)), (a_this_house, .inr (0, [.ref a_this_house_merchants, .ref a_this_house_texts, .ref a_this_house_acts, .ref a_this_house_debts, .ref a_this_house_payments, .ref a_this_house_purses, .ref a_this_house_gates, .ref a_this_house_stones, .ref a_this_house_told, .ref a_this_house_letters, .ref a_this_house_mentions, .ref a_this_house_loads, .ref a_this_house_prices, .int v_this_house_narrow, .int v_this_house_names])), (a_this_house_letters, .inr (8, [.int (5 : Int32), .int (30 : Int32), .ref a_this_house_letters_cells, .int v_this_house_letters_rows])), (a_this_house_letters_cells, .inl (cI, 150, .inl v_this_house_letters_cells))]) (st := []) (c_X8_get l D cI cJ cZ cH a_this_house_letters a_this_house_letters_cells 150 v_this_house_letters_cells (30 : Int32) v_this_house_letters_rows (5 : Int32) s_4.2.1 (0 : Int32) hc_6) gzX6_37 rfl rfl rfl eV_X8_get ⟨Nat.le_of_ble_eq_true rfl, Nat.le_of_ble_eq_true rfl⟩ rfl 3 rfl rfl [3, 4] rfl rfl rfl rfl rfl (Nat.le_of_ble_eq_true rfl) (Nat.le_refl _) (Nat.le_refl _) rfl dX6_fill_59 ?_
              refine ii_istore (lv' := [(4, .int c_6), (0, .ref a_this), (1, .int s_4.1), (2, .int s_2.2.1), (3, .int s_4.2.1)]) dX6_fill_62 (by decide) rfl ?_
              refine ii_aload_n 1 dX6_fill_64 rfl ?_
              refine ii_iload 0 dX6_fill_65 rfl ?_
              refine ii_aload_n 1 dX6_fill_67 rfl ?_
              refine ii_get (C := RX6) (T := TX6) (N := 2) (ci := 6) izX6 0 rfl rfl 0 (by decide) kX6_15 rfl dX6_fill_68 ?_
              refine ii_get (C := RX0) (T := TX0) (N := 15) (ci := 0) izX0 2 rfl rfl 9 (by decide) kX6_25 rfl dX6_fill_71 ?_
              refine ii_iload_n 4 dX6_fill_74 rfl ?_
              refine ii_iconst dX6_fill_75 kc2 ?_
              obtain ⟨c_7, hc_7, h⟩ := bnd h
              refine ii_callVi (As := [.int s_4.2.1, .int (2 : Int32)]) (ws' := [(a_this, .inr (6, [.ref a_this_house, .ref a_this_carried])), (a_this_carried, .inl (cI, 30, .inl s_4.2.2)), (a_this_house, .inr (0, [.ref a_this_house_merchants, .ref a_this_house_texts, .ref a_this_house_acts, .ref a_this_house_debts, .ref a_this_house_payments, .ref a_this_house_purses, .ref a_this_house_gates, .ref a_this_house_stones, .ref a_this_house_told, .ref a_this_house_letters, .ref a_this_house_mentions, .ref a_this_house_loads, .ref a_this_house_prices, .int v_this_house_narrow, .int v_this_house_names])), (a_this_house_letters, .inr (8, [.int (5 : Int32), .int (30 : Int32), .ref a_this_house_letters_cells, .int v_this_house_letters_rows])), (a_this_house_letters_cells, .inl (cI, 150, .inl v_this_house_letters_cells))]) (st := [.int c_6, .ref a_this]) (c_X8_get l D cI cJ cZ cH a_this_house_letters a_this_house_letters_cells 150 v_this_house_letters_cells (30 : Int32) v_this_house_letters_rows (5 : Int32) s_4.2.1 (2 : Int32) hc_7) gzX6_37 rfl rfl rfl eV_X8_get ⟨Nat.le_of_ble_eq_true rfl, Nat.le_of_ble_eq_true rfl⟩ rfl 3 rfl rfl [3, 4] rfl rfl rfl rfl rfl (Nat.le_of_ble_eq_true rfl) (Nat.le_refl _) (Nat.le_refl _) rfl dX6_fill_76 ?_
              obtain ⟨c_8, hc_8, h⟩ := bnd h
              refine ii_callVi (As := [.int c_6, .int c_7]) (ws' := [(a_this, .inr (6, [.ref a_this_house, .ref a_this_carried])), (a_this_carried, .inl (cI, 30, .inl s_4.2.2)), (a_this_house, .inr (0, [.ref a_this_house_merchants, .ref a_this_house_texts, .ref a_this_house_acts, .ref a_this_house_debts, .ref a_this_house_payments, .ref a_this_house_purses, .ref a_this_house_gates, .ref a_this_house_stones, .ref a_this_house_told, .ref a_this_house_letters, .ref a_this_house_mentions, .ref a_this_house_loads, .ref a_this_house_prices, .int v_this_house_narrow, .int v_this_house_names])), (a_this_house_letters, .inr (8, [.int (5 : Int32), .int (30 : Int32), .ref a_this_house_letters_cells, .int v_this_house_letters_rows])), (a_this_house_letters_cells, .inl (cI, 150, .inl v_this_house_letters_cells))]) (st := []) (c_X6_knownTo l D cI cJ cZ cH a_this a_this_carried a_this_house a_this_house_acts a_this_house_debts a_this_house_gates a_this_house_letters a_this_house_letters_cells a_this_house_loads a_this_house_mentions a_this_house_merchants a_this_house_payments a_this_house_prices a_this_house_purses a_this_house_stones a_this_house_texts a_this_house_told s_4.2.2 v_this_house_letters_cells v_this_house_letters_rows v_this_house_names v_this_house_narrow c_6 c_7 hc_8) gzX6_41 rfl rfl rfl eV_X6_knownTo ⟨Nat.le_of_ble_eq_true rfl, Nat.le_of_ble_eq_true rfl⟩ rfl 0 rfl rfl [0, 1, 2, 3, 4] rfl rfl rfl rfl rfl (Nat.le_of_ble_eq_true rfl) (Nat.le_refl _) (Nat.le_refl _) rfl dX6_fill_79 ?_
              refine ii_istore (lv' := [(5, .int c_8), (4, .int c_6), (0, .ref a_this), (1, .int s_4.1), (2, .int s_2.2.1), (3, .int s_4.2.1)]) dX6_fill_82 (by decide) rfl ?_
              refine ii_iload_n 3 dX6_fill_84 rfl ?_
              refine ii_jn h (fun j_9 => [(a_this, .inr (6, [.ref a_this_house, .ref a_this_carried])), (a_this_carried, .inl (cI, 30, .inl s_4.2.2)), (a_this_house, .inr (0, [.ref a_this_house_merchants, .ref a_this_house_texts, .ref a_this_house_acts, .ref a_this_house_debts, .ref a_this_house_payments, .ref a_this_house_purses, .ref a_this_house_gates, .ref a_this_house_stones, .ref a_this_house_told, .ref a_this_house_letters, .ref a_this_house_mentions, .ref a_this_house_loads, .ref a_this_house_prices, .int v_this_house_narrow, .int v_this_house_names])), (a_this_house_letters, .inr (8, [.int (5 : Int32), .int (30 : Int32), .ref a_this_house_letters_cells, .int v_this_house_letters_rows])), (a_this_house_letters_cells, .inl (cI, 150, .inl v_this_house_letters_cells))]) (fun j_9 => [(0, .ref a_this), (2, .int s_2.2.1), (3, .int s_4.2.1), (5, .int c_8)]) 104 (fun j_9 => [.int j_9]) (fun j_9 h => ?_) (fun j_9 h hjj_9 => ?_)
              · skip
                refine ii_istore_n (lv' := [(1, .int j_9), (0, .ref a_this), (2, .int s_2.2.1), (3, .int s_4.2.1), (5, .int c_8)]) dX6_fill_104 rfl (by decide) rfl ?_
                refine ii_aload_n 1 dX6_fill_105 rfl ?_
                refine ii_get (C := RX6) (T := TX6) (N := 2) (ci := 6) izX6 0 rfl rfl 1 (by decide) kX6_9 rfl dX6_fill_106 ?_
                refine ii_iload_n 3 dX6_fill_109 rfl ?_
                refine ii_iload 4 dX6_fill_110 rfl ?_
                refine ii_iast (fun g_11 => [(a_this, .inr (6, [.ref a_this_house, .ref a_this_carried])), (a_this_carried, .inl (cI, 30, .inl g_11)), (a_this_house, .inr (0, [.ref a_this_house_merchants, .ref a_this_house_texts, .ref a_this_house_acts, .ref a_this_house_debts, .ref a_this_house_payments, .ref a_this_house_purses, .ref a_this_house_gates, .ref a_this_house_stones, .ref a_this_house_told, .ref a_this_house_letters, .ref a_this_house_mentions, .ref a_this_house_loads, .ref a_this_house_prices, .int v_this_house_narrow, .int v_this_house_names])), (a_this_house_letters, .inr (8, [.int (5 : Int32), .int (30 : Int32), .ref a_this_house_letters_cells, .int v_this_house_letters_rows])), (a_this_house_letters_cells, .inl (cI, 150, .inl v_this_house_letters_cells))]) h 1 0 rfl rfl dX6_fill_112 (fun _ => rfl) (fun g_11 h => ?_)
                refine ii_iinc (fun x_12 => [(3, .int x_12), (1, .int j_9), (0, .ref a_this), (2, .int s_2.2.1), (5, .int c_8)]) h 3 dX6_fill_113 rfl kc1 (by decide) (fun _ => rfl) (fun x_12 h => ?_)
                refine ii_goto (tgt := 27) dX6_fill_116 (by decide) ?_
                refine ii_lv [2, 1, 3, 0] rfl ?_
                cases h
                exact hb_4 (j_9, x_12, g_11) rfl
              · skip
                refine ii_if_ne (tgt := 99) h dX6_fill_85 (by decide) (fun h => ?_) (fun h => ?_)
                · skip
                  refine ii_iconst dX6_fill_99 kc1 ?_
                  refine ii_goto (tgt := 104) dX6_fill_100 (by decide) ?_
                  refine ii_lv [2, 4, 5, 0] rfl ?_
                  cases h
                  exact hjj_9
                · skip
                  refine ii_iload 0 dX6_fill_88 rfl ?_
                  refine ii_aload_n 2 dX6_fill_90 rfl ?_
                  refine ii_get (C := RX6) (T := TX6) (N := 2) (ci := 6) izX6 0 rfl rfl 1 (by decide) kX6_9 rfl dX6_fill_91 ?_
                  refine ii_iload_n 5 dX6_fill_94 rfl ?_
                  refine ii_iald h 1 0 rfl rfl dX6_fill_95 (fun t_10 h => ?_)
                  refine ii_icmp_eq (tgt := 103) h dX6_fill_96 (by decide) (fun h => ?_) (fun h => ?_)
                  · skip
                    refine ii_iconst dX6_fill_103 kc0 ?_
                    refine ii_lv [2, 4, 5, 0] rfl ?_
                    cases h
                    exact hjj_9
                  · skip
                    refine ii_iconst dX6_fill_99 kc1 ?_
                    refine ii_goto (tgt := 104) dX6_fill_100 (by decide) ?_
                    refine ii_lv [2, 4, 5, 0] rfl ?_
                    cases h
                    exact hjj_9
set_option maxHeartbeats 4000000 in
set_option maxRecDepth 100000 in
theorem c_X9_lowerOf (l : Launch) (D : va_G) (cI cJ cZ cH : ClassId) (a_this a_this_house a_this_house_acts a_this_house_debts a_this_house_gates a_this_house_letters a_this_house_loads a_this_house_mentions a_this_house_merchants a_this_house_payments a_this_house_prices a_this_house_purses a_this_house_stones a_this_house_stones_cells a_this_house_texts a_this_house_told a_this_law : Nat) (v_this_house_names : Int32) (v_this_house_narrow : Int32) (v_this_house_stones_cells : Nat → Int32) (v_this_house_stones_rows : Int32) (p0 : Int32) {res : Int64} (h : F_X9_lowerOf v_this_house_stones_cells v_this_house_stones_rows p0 = some res) : CTl l yX9_lowerOf wzX9_lowerOf { frames := 2, cells := 0, slots := 0, locals := 46 } D [(cI, .int), (cJ, .long), (cZ, .boolean), (cH, .object "TinHouse$House")] [.ref a_this, .int p0] [(a_this, .inr (9, [.ref a_this_house, .ref a_this_law])), (a_this_house, .inr (0, [.ref a_this_house_merchants, .ref a_this_house_texts, .ref a_this_house_acts, .ref a_this_house_debts, .ref a_this_house_payments, .ref a_this_house_purses, .ref a_this_house_gates, .ref a_this_house_stones, .ref a_this_house_told, .ref a_this_house_letters, .ref a_this_house_mentions, .ref a_this_house_loads, .ref a_this_house_prices, .int v_this_house_narrow, .int v_this_house_names])), (a_this_house_stones, .inr (8, [.int (3 : Int32), .int (12 : Int32), .ref a_this_house_stones_cells, .int v_this_house_stones_rows])), (a_this_house_stones_cells, .inl (cI, 36, .inl v_this_house_stones_cells))] res [(a_this, .inr (9, [.ref a_this_house, .ref a_this_law])), (a_this_house, .inr (0, [.ref a_this_house_merchants, .ref a_this_house_texts, .ref a_this_house_acts, .ref a_this_house_debts, .ref a_this_house_payments, .ref a_this_house_purses, .ref a_this_house_gates, .ref a_this_house_stones, .ref a_this_house_told, .ref a_this_house_letters, .ref a_this_house_mentions, .ref a_this_house_loads, .ref a_this_house_prices, .int v_this_house_narrow, .int v_this_house_names])), (a_this_house_stones, .inr (8, [.int (3 : Int32), .int (12 : Int32), .ref a_this_house_stones_cells, .int v_this_house_stones_rows])), (a_this_house_stones_cells, .inl (cI, 36, .inl v_this_house_stones_cells))] := by
  unfold F_X9_lowerOf at h
  refine ii_metL (own := RX9) (lv0 := [(0, .ref a_this), (1, .int p0)]) (by decide) rfl rfl rfl (Nat.le_of_ble_eq_true rfl) (fun {p e s m args below meth c A Q} hQ => ?_)
  refine ii_aload_n 0 dX9_lowerOf_0 rfl ?_
  refine ii_get (C := RX9) (T := TX9) (N := 2) (ci := 9) izX9 0 rfl rfl 0 (by decide) kX9_9 rfl dX9_lowerOf_1 ?_
  refine ii_get (C := RX0) (T := TX0) (N := 15) (ci := 0) izX0 1 rfl rfl 7 (by decide) kX9_49 rfl dX9_lowerOf_4 ?_
  refine ii_iload_n 1 dX9_lowerOf_7 rfl ?_
  refine ii_iconst dX9_lowerOf_8 kc1 ?_
  obtain ⟨c_1, hc_1, h⟩ := bnd h
  refine ii_callVi (As := [.int p0, .int (1 : Int32)]) (ws' := [(a_this, .inr (9, [.ref a_this_house, .ref a_this_law])), (a_this_house, .inr (0, [.ref a_this_house_merchants, .ref a_this_house_texts, .ref a_this_house_acts, .ref a_this_house_debts, .ref a_this_house_payments, .ref a_this_house_purses, .ref a_this_house_gates, .ref a_this_house_stones, .ref a_this_house_told, .ref a_this_house_letters, .ref a_this_house_mentions, .ref a_this_house_loads, .ref a_this_house_prices, .int v_this_house_narrow, .int v_this_house_names])), (a_this_house_stones, .inr (8, [.int (3 : Int32), .int (12 : Int32), .ref a_this_house_stones_cells, .int v_this_house_stones_rows])), (a_this_house_stones_cells, .inl (cI, 36, .inl v_this_house_stones_cells))]) (st := []) (c_X8_get l D cI cJ cZ cH a_this_house_stones a_this_house_stones_cells 36 v_this_house_stones_cells (12 : Int32) v_this_house_stones_rows (3 : Int32) p0 (1 : Int32) hc_1) gzX9_25 rfl rfl rfl eV_X8_get ⟨Nat.le_of_ble_eq_true rfl, Nat.le_of_ble_eq_true rfl⟩ rfl 2 rfl rfl [2, 3] rfl rfl rfl rfl rfl (Nat.le_of_ble_eq_true rfl) (Nat.le_refl _) (Nat.le_refl _) rfl dX9_lowerOf_9 ?_
  refine ii_aload_n 0 dX9_lowerOf_12 rfl ?_
  refine ii_get (C := RX9) (T := TX9) (N := 2) (ci := 9) izX9 0 rfl rfl 0 (by decide) kX9_9 rfl dX9_lowerOf_13 ?_
  refine ii_get (C := RX0) (T := TX0) (N := 15) (ci := 0) izX0 1 rfl rfl 7 (by decide) kX9_49 rfl dX9_lowerOf_16 ?_
  refine ii_iload_n 1 dX9_lowerOf_19 rfl ?_
  refine ii_iconst dX9_lowerOf_20 kc2 ?_
  obtain ⟨c_2, hc_2, h⟩ := bnd h
  refine ii_callVi (As := [.int p0, .int (2 : Int32)]) (ws' := [(a_this, .inr (9, [.ref a_this_house, .ref a_this_law])), (a_this_house, .inr (0, [.ref a_this_house_merchants, .ref a_this_house_texts, .ref a_this_house_acts, .ref a_this_house_debts, .ref a_this_house_payments, .ref a_this_house_purses, .ref a_this_house_gates, .ref a_this_house_stones, .ref a_this_house_told, .ref a_this_house_letters, .ref a_this_house_mentions, .ref a_this_house_loads, .ref a_this_house_prices, .int v_this_house_narrow, .int v_this_house_names])), (a_this_house_stones, .inr (8, [.int (3 : Int32), .int (12 : Int32), .ref a_this_house_stones_cells, .int v_this_house_stones_rows])), (a_this_house_stones_cells, .inl (cI, 36, .inl v_this_house_stones_cells))]) (st := [.int c_1]) (c_X8_get l D cI cJ cZ cH a_this_house_stones a_this_house_stones_cells 36 v_this_house_stones_cells (12 : Int32) v_this_house_stones_rows (3 : Int32) p0 (2 : Int32) hc_2) gzX9_25 rfl rfl rfl eV_X8_get ⟨Nat.le_of_ble_eq_true rfl, Nat.le_of_ble_eq_true rfl⟩ rfl 2 rfl rfl [2, 3] rfl rfl rfl rfl rfl (Nat.le_of_ble_eq_true rfl) (Nat.le_refl _) (Nat.le_refl _) rfl dX9_lowerOf_21 ?_
  refine ii_isub dX9_lowerOf_24 ?_
  refine ii_i2l dX9_lowerOf_25 ?_
  cases h
  exact hQ _ _ dX9_lowerOf_26
set_option maxHeartbeats 4000000 in
set_option maxRecDepth 100000 in
theorem c_X9_upperOf (l : Launch) (D : va_G) (cI cJ cZ cH : ClassId) (a_this a_this_house a_this_house_acts a_this_house_debts a_this_house_gates a_this_house_letters a_this_house_loads a_this_house_mentions a_this_house_merchants a_this_house_payments a_this_house_prices a_this_house_purses a_this_house_stones a_this_house_stones_cells a_this_house_texts a_this_house_told a_this_law : Nat) (v_this_house_names : Int32) (v_this_house_narrow : Int32) (v_this_house_stones_cells : Nat → Int32) (v_this_house_stones_rows : Int32) (p0 : Int32) {res : Int64} (h : F_X9_upperOf v_this_house_stones_cells v_this_house_stones_rows p0 = some res) : CTl l yX9_upperOf wzX9_upperOf { frames := 2, cells := 0, slots := 0, locals := 46 } D [(cI, .int), (cJ, .long), (cZ, .boolean), (cH, .object "TinHouse$House")] [.ref a_this, .int p0] [(a_this, .inr (9, [.ref a_this_house, .ref a_this_law])), (a_this_house, .inr (0, [.ref a_this_house_merchants, .ref a_this_house_texts, .ref a_this_house_acts, .ref a_this_house_debts, .ref a_this_house_payments, .ref a_this_house_purses, .ref a_this_house_gates, .ref a_this_house_stones, .ref a_this_house_told, .ref a_this_house_letters, .ref a_this_house_mentions, .ref a_this_house_loads, .ref a_this_house_prices, .int v_this_house_narrow, .int v_this_house_names])), (a_this_house_stones, .inr (8, [.int (3 : Int32), .int (12 : Int32), .ref a_this_house_stones_cells, .int v_this_house_stones_rows])), (a_this_house_stones_cells, .inl (cI, 36, .inl v_this_house_stones_cells))] res [(a_this, .inr (9, [.ref a_this_house, .ref a_this_law])), (a_this_house, .inr (0, [.ref a_this_house_merchants, .ref a_this_house_texts, .ref a_this_house_acts, .ref a_this_house_debts, .ref a_this_house_payments, .ref a_this_house_purses, .ref a_this_house_gates, .ref a_this_house_stones, .ref a_this_house_told, .ref a_this_house_letters, .ref a_this_house_mentions, .ref a_this_house_loads, .ref a_this_house_prices, .int v_this_house_narrow, .int v_this_house_names])), (a_this_house_stones, .inr (8, [.int (3 : Int32), .int (12 : Int32), .ref a_this_house_stones_cells, .int v_this_house_stones_rows])), (a_this_house_stones_cells, .inl (cI, 36, .inl v_this_house_stones_cells))] := by
  unfold F_X9_upperOf at h
  refine ii_metL (own := RX9) (lv0 := [(0, .ref a_this), (1, .int p0)]) (by decide) rfl rfl rfl (Nat.le_of_ble_eq_true rfl) (fun {p e s m args below meth c A Q} hQ => ?_)
  refine ii_aload_n 0 dX9_upperOf_0 rfl ?_
  refine ii_get (C := RX9) (T := TX9) (N := 2) (ci := 9) izX9 0 rfl rfl 0 (by decide) kX9_9 rfl dX9_upperOf_1 ?_
  refine ii_get (C := RX0) (T := TX0) (N := 15) (ci := 0) izX0 1 rfl rfl 7 (by decide) kX9_49 rfl dX9_upperOf_4 ?_
  refine ii_iload_n 1 dX9_upperOf_7 rfl ?_
  refine ii_iconst dX9_upperOf_8 kc1 ?_
  obtain ⟨c_1, hc_1, h⟩ := bnd h
  refine ii_callVi (As := [.int p0, .int (1 : Int32)]) (ws' := [(a_this, .inr (9, [.ref a_this_house, .ref a_this_law])), (a_this_house, .inr (0, [.ref a_this_house_merchants, .ref a_this_house_texts, .ref a_this_house_acts, .ref a_this_house_debts, .ref a_this_house_payments, .ref a_this_house_purses, .ref a_this_house_gates, .ref a_this_house_stones, .ref a_this_house_told, .ref a_this_house_letters, .ref a_this_house_mentions, .ref a_this_house_loads, .ref a_this_house_prices, .int v_this_house_narrow, .int v_this_house_names])), (a_this_house_stones, .inr (8, [.int (3 : Int32), .int (12 : Int32), .ref a_this_house_stones_cells, .int v_this_house_stones_rows])), (a_this_house_stones_cells, .inl (cI, 36, .inl v_this_house_stones_cells))]) (st := []) (c_X8_get l D cI cJ cZ cH a_this_house_stones a_this_house_stones_cells 36 v_this_house_stones_cells (12 : Int32) v_this_house_stones_rows (3 : Int32) p0 (1 : Int32) hc_1) gzX9_25 rfl rfl rfl eV_X8_get ⟨Nat.le_of_ble_eq_true rfl, Nat.le_of_ble_eq_true rfl⟩ rfl 2 rfl rfl [2, 3] rfl rfl rfl rfl rfl (Nat.le_of_ble_eq_true rfl) (Nat.le_refl _) (Nat.le_refl _) rfl dX9_upperOf_9 ?_
  refine ii_aload_n 0 dX9_upperOf_12 rfl ?_
  refine ii_get (C := RX9) (T := TX9) (N := 2) (ci := 9) izX9 0 rfl rfl 0 (by decide) kX9_9 rfl dX9_upperOf_13 ?_
  refine ii_get (C := RX0) (T := TX0) (N := 15) (ci := 0) izX0 1 rfl rfl 7 (by decide) kX9_49 rfl dX9_upperOf_16 ?_
  refine ii_iload_n 1 dX9_upperOf_19 rfl ?_
  refine ii_iconst dX9_upperOf_20 kc2 ?_
  obtain ⟨c_2, hc_2, h⟩ := bnd h
  refine ii_callVi (As := [.int p0, .int (2 : Int32)]) (ws' := [(a_this, .inr (9, [.ref a_this_house, .ref a_this_law])), (a_this_house, .inr (0, [.ref a_this_house_merchants, .ref a_this_house_texts, .ref a_this_house_acts, .ref a_this_house_debts, .ref a_this_house_payments, .ref a_this_house_purses, .ref a_this_house_gates, .ref a_this_house_stones, .ref a_this_house_told, .ref a_this_house_letters, .ref a_this_house_mentions, .ref a_this_house_loads, .ref a_this_house_prices, .int v_this_house_narrow, .int v_this_house_names])), (a_this_house_stones, .inr (8, [.int (3 : Int32), .int (12 : Int32), .ref a_this_house_stones_cells, .int v_this_house_stones_rows])), (a_this_house_stones_cells, .inl (cI, 36, .inl v_this_house_stones_cells))]) (st := [.int c_1]) (c_X8_get l D cI cJ cZ cH a_this_house_stones a_this_house_stones_cells 36 v_this_house_stones_cells (12 : Int32) v_this_house_stones_rows (3 : Int32) p0 (2 : Int32) hc_2) gzX9_25 rfl rfl rfl eV_X8_get ⟨Nat.le_of_ble_eq_true rfl, Nat.le_of_ble_eq_true rfl⟩ rfl 2 rfl rfl [2, 3] rfl rfl rfl rfl rfl (Nat.le_of_ble_eq_true rfl) (Nat.le_refl _) (Nat.le_refl _) rfl dX9_upperOf_21 ?_
  refine ii_iadd dX9_upperOf_24 ?_
  refine ii_i2l dX9_upperOf_25 ?_
  cases h
  exact hQ _ _ dX9_upperOf_26
set_option maxHeartbeats 4000000 in
set_option maxRecDepth 100000 in
theorem c_X9_isAbove (l : Launch) (D : va_G) (cI cJ cZ cH : ClassId) (a_this a_this_house a_this_house_acts a_this_house_debts a_this_house_gates a_this_house_letters a_this_house_loads a_this_house_mentions a_this_house_merchants a_this_house_payments a_this_house_prices a_this_house_purses a_this_house_stones a_this_house_stones_cells a_this_house_texts a_this_house_told a_this_law : Nat) (v_this_house_names : Int32) (v_this_house_narrow : Int32) (v_this_house_stones_cells : Nat → Int32) (v_this_house_stones_rows : Int32) (p0 : Int64) (p1 : Int32) (p2 : Int64) (p3 : Int32) {res : Int32} (h : F_X9_isAbove v_this_house_stones_cells v_this_house_stones_rows p0 p1 p2 p3 = some res) : CTi l yX9_isAbove wzX9_isAbove { frames := 2, cells := 0, slots := 0, locals := 46 } D [(cI, .int), (cJ, .long), (cZ, .boolean), (cH, .object "TinHouse$House")] [.ref a_this, .long p0, .int p1, .long p2, .int p3] [(a_this, .inr (9, [.ref a_this_house, .ref a_this_law])), (a_this_house, .inr (0, [.ref a_this_house_merchants, .ref a_this_house_texts, .ref a_this_house_acts, .ref a_this_house_debts, .ref a_this_house_payments, .ref a_this_house_purses, .ref a_this_house_gates, .ref a_this_house_stones, .ref a_this_house_told, .ref a_this_house_letters, .ref a_this_house_mentions, .ref a_this_house_loads, .ref a_this_house_prices, .int v_this_house_narrow, .int v_this_house_names])), (a_this_house_stones, .inr (8, [.int (3 : Int32), .int (12 : Int32), .ref a_this_house_stones_cells, .int v_this_house_stones_rows])), (a_this_house_stones_cells, .inl (cI, 36, .inl v_this_house_stones_cells))] res [(a_this, .inr (9, [.ref a_this_house, .ref a_this_law])), (a_this_house, .inr (0, [.ref a_this_house_merchants, .ref a_this_house_texts, .ref a_this_house_acts, .ref a_this_house_debts, .ref a_this_house_payments, .ref a_this_house_purses, .ref a_this_house_gates, .ref a_this_house_stones, .ref a_this_house_told, .ref a_this_house_letters, .ref a_this_house_mentions, .ref a_this_house_loads, .ref a_this_house_prices, .int v_this_house_narrow, .int v_this_house_names])), (a_this_house_stones, .inr (8, [.int (3 : Int32), .int (12 : Int32), .ref a_this_house_stones_cells, .int v_this_house_stones_rows])), (a_this_house_stones_cells, .inl (cI, 36, .inl v_this_house_stones_cells))] := by
  unfold F_X9_isAbove at h
  refine ii_metZ (own := RX9) (lv0 := [(0, .ref a_this), (1, .long p0), (3, .int p1), (4, .long p2), (6, .int p3)]) (by decide) rfl rfl rfl (Nat.le_of_ble_eq_true rfl) (fun {p e s m args below meth c A Q} hQ => ?_)
  refine ii_lload_n 1 dX9_isAbove_0 rfl ?_
  refine ii_aload_n 0 dX9_isAbove_1 rfl ?_
  refine ii_get (C := RX9) (T := TX9) (N := 2) (ci := 9) izX9 0 rfl rfl 0 (by decide) kX9_9 rfl dX9_isAbove_2 ?_
  refine ii_get (C := RX0) (T := TX0) (N := 15) (ci := 0) izX0 1 rfl rfl 7 (by decide) kX9_49 rfl dX9_isAbove_5 ?_
  refine ii_iload 4 dX9_isAbove_8 rfl ?_
  refine ii_iconst dX9_isAbove_10 kc0 ?_
  obtain ⟨c_1, hc_1, h⟩ := bnd h
  refine ii_callVi (As := [.int p3, .int (0 : Int32)]) (ws' := [(a_this, .inr (9, [.ref a_this_house, .ref a_this_law])), (a_this_house, .inr (0, [.ref a_this_house_merchants, .ref a_this_house_texts, .ref a_this_house_acts, .ref a_this_house_debts, .ref a_this_house_payments, .ref a_this_house_purses, .ref a_this_house_gates, .ref a_this_house_stones, .ref a_this_house_told, .ref a_this_house_letters, .ref a_this_house_mentions, .ref a_this_house_loads, .ref a_this_house_prices, .int v_this_house_narrow, .int v_this_house_names])), (a_this_house_stones, .inr (8, [.int (3 : Int32), .int (12 : Int32), .ref a_this_house_stones_cells, .int v_this_house_stones_rows])), (a_this_house_stones_cells, .inl (cI, 36, .inl v_this_house_stones_cells))]) (st := [.long p0]) (c_X8_get l D cI cJ cZ cH a_this_house_stones a_this_house_stones_cells 36 v_this_house_stones_cells (12 : Int32) v_this_house_stones_rows (3 : Int32) p3 (0 : Int32) hc_1) gzX9_25 rfl rfl rfl eV_X8_get ⟨Nat.le_of_ble_eq_true rfl, Nat.le_of_ble_eq_true rfl⟩ rfl 2 rfl rfl [2, 3] rfl rfl rfl rfl rfl (Nat.le_of_ble_eq_true rfl) (Nat.le_refl _) (Nat.le_refl _) rfl dX9_isAbove_11 ?_
  refine ii_i2l dX9_isAbove_14 ?_
  refine ii_lmul dX9_isAbove_15 ?_
  refine ii_lload 3 dX9_isAbove_16 rfl ?_
  refine ii_aload_n 0 dX9_isAbove_18 rfl ?_
  refine ii_get (C := RX9) (T := TX9) (N := 2) (ci := 9) izX9 0 rfl rfl 0 (by decide) kX9_9 rfl dX9_isAbove_19 ?_
  refine ii_get (C := RX0) (T := TX0) (N := 15) (ci := 0) izX0 1 rfl rfl 7 (by decide) kX9_49 rfl dX9_isAbove_22 ?_
  refine ii_iload_n 2 dX9_isAbove_25 rfl ?_
  refine ii_iconst dX9_isAbove_26 kc0 ?_
  obtain ⟨c_2, hc_2, h⟩ := bnd h
  refine ii_callVi (As := [.int p1, .int (0 : Int32)]) (ws' := [(a_this, .inr (9, [.ref a_this_house, .ref a_this_law])), (a_this_house, .inr (0, [.ref a_this_house_merchants, .ref a_this_house_texts, .ref a_this_house_acts, .ref a_this_house_debts, .ref a_this_house_payments, .ref a_this_house_purses, .ref a_this_house_gates, .ref a_this_house_stones, .ref a_this_house_told, .ref a_this_house_letters, .ref a_this_house_mentions, .ref a_this_house_loads, .ref a_this_house_prices, .int v_this_house_narrow, .int v_this_house_names])), (a_this_house_stones, .inr (8, [.int (3 : Int32), .int (12 : Int32), .ref a_this_house_stones_cells, .int v_this_house_stones_rows])), (a_this_house_stones_cells, .inl (cI, 36, .inl v_this_house_stones_cells))]) (st := [.long p2, .long (p0 * c_1.toInt64)]) (c_X8_get l D cI cJ cZ cH a_this_house_stones a_this_house_stones_cells 36 v_this_house_stones_cells (12 : Int32) v_this_house_stones_rows (3 : Int32) p1 (0 : Int32) hc_2) gzX9_25 rfl rfl rfl eV_X8_get ⟨Nat.le_of_ble_eq_true rfl, Nat.le_of_ble_eq_true rfl⟩ rfl 2 rfl rfl [2, 3] rfl rfl rfl rfl rfl (Nat.le_of_ble_eq_true rfl) (Nat.le_refl _) (Nat.le_refl _) rfl dX9_isAbove_27 ?_
  refine ii_i2l dX9_isAbove_30 ?_
  refine ii_lmul dX9_isAbove_31 ?_
  refine ii_jn h (fun j_3 => [(a_this, .inr (9, [.ref a_this_house, .ref a_this_law])), (a_this_house, .inr (0, [.ref a_this_house_merchants, .ref a_this_house_texts, .ref a_this_house_acts, .ref a_this_house_debts, .ref a_this_house_payments, .ref a_this_house_purses, .ref a_this_house_gates, .ref a_this_house_stones, .ref a_this_house_told, .ref a_this_house_letters, .ref a_this_house_mentions, .ref a_this_house_loads, .ref a_this_house_prices, .int v_this_house_narrow, .int v_this_house_names])), (a_this_house_stones, .inr (8, [.int (3 : Int32), .int (12 : Int32), .ref a_this_house_stones_cells, .int v_this_house_stones_rows])), (a_this_house_stones_cells, .inl (cI, 36, .inl v_this_house_stones_cells))]) (fun j_3 => []) 41 (fun j_3 => [.int j_3]) (fun j_3 h => ?_) (fun j_3 h hjj_3 => ?_)
  · skip
    refine ii_topB h (fun t_4 hz_5 h => ?_)
    cases h
    exact hQ _ _ dX9_isAbove_41 hz_5
  · skip
    refine ii_lcmp_le (tgt := 40) h dX9_isAbove_32 dX9_isAbove_33 (by decide) (fun h => ?_) (fun h => ?_)
    · skip
      refine ii_iconst dX9_isAbove_40 kc0 ?_
      refine ii_lv [] rfl ?_
      cases h
      exact hjj_3
    · skip
      refine ii_iconst dX9_isAbove_36 kc1 ?_
      refine ii_goto (tgt := 41) dX9_isAbove_37 (by decide) ?_
      refine ii_lv [] rfl ?_
      cases h
      exact hjj_3
set_option maxHeartbeats 4000000 in
set_option maxRecDepth 100000 in
theorem c_X9_highestLower (l : Launch) (D : va_G) (cI cJ cZ cH : ClassId) (a_this a_this_house a_this_house_acts a_this_house_debts a_this_house_gates a_this_house_letters a_this_house_loads a_this_house_mentions a_this_house_merchants a_this_house_payments a_this_house_prices a_this_house_purses a_this_house_stones a_this_house_stones_cells a_this_house_texts a_this_house_told a_this_law : Nat) (v_this_house_names : Int32) (v_this_house_narrow : Int32) (v_this_house_stones_cells : Nat → Int32) (v_this_house_stones_rows : Int32) {res : Int32} (h : F_X9_highestLower v_this_house_stones_cells v_this_house_stones_rows = some res) : CTi l yX9_highestLower wzX9_highestLower { frames := 3, cells := 0, slots := 0, locals := 72 } D [(cI, .int), (cJ, .long), (cZ, .boolean), (cH, .object "TinHouse$House")] [.ref a_this] [(a_this, .inr (9, [.ref a_this_house, .ref a_this_law])), (a_this_house, .inr (0, [.ref a_this_house_merchants, .ref a_this_house_texts, .ref a_this_house_acts, .ref a_this_house_debts, .ref a_this_house_payments, .ref a_this_house_purses, .ref a_this_house_gates, .ref a_this_house_stones, .ref a_this_house_told, .ref a_this_house_letters, .ref a_this_house_mentions, .ref a_this_house_loads, .ref a_this_house_prices, .int v_this_house_narrow, .int v_this_house_names])), (a_this_house_stones, .inr (8, [.int (3 : Int32), .int (12 : Int32), .ref a_this_house_stones_cells, .int v_this_house_stones_rows])), (a_this_house_stones_cells, .inl (cI, 36, .inl v_this_house_stones_cells))] res [(a_this, .inr (9, [.ref a_this_house, .ref a_this_law])), (a_this_house, .inr (0, [.ref a_this_house_merchants, .ref a_this_house_texts, .ref a_this_house_acts, .ref a_this_house_debts, .ref a_this_house_payments, .ref a_this_house_purses, .ref a_this_house_gates, .ref a_this_house_stones, .ref a_this_house_told, .ref a_this_house_letters, .ref a_this_house_mentions, .ref a_this_house_loads, .ref a_this_house_prices, .int v_this_house_narrow, .int v_this_house_names])), (a_this_house_stones, .inr (8, [.int (3 : Int32), .int (12 : Int32), .ref a_this_house_stones_cells, .int v_this_house_stones_rows])), (a_this_house_stones_cells, .inl (cI, 36, .inl v_this_house_stones_cells))] := by
  unfold F_X9_highestLower at h
  refine ii_metI (own := RX9) (lv0 := [(0, .ref a_this)]) (by decide) rfl rfl rfl (Nat.le_of_ble_eq_true rfl) (fun {p e s m args below meth c A Q} hQ => ?_)
  refine ii_iconst dX9_highestLower_0 kc0 ?_
  refine ii_istore_n (lv' := [(1, .int (0 : Int32)), (0, .ref a_this)]) dX9_highestLower_1 rfl (by decide) rfl ?_
  refine ii_iconst dX9_highestLower_2 kc1 ?_
  refine ii_istore_n (lv' := [(2, .int (1 : Int32)), (1, .int (0 : Int32)), (0, .ref a_this)]) dX9_highestLower_3 rfl (by decide) rfl ?_
  refine ii_lv [2, 1, 0] rfl ?_
  obtain ⟨x_2, hl_1, h⟩ := bnd h
  refine ii_loopX (fun s_1 => [(a_this, .inr (9, [.ref a_this_house, .ref a_this_law])), (a_this_house, .inr (0, [.ref a_this_house_merchants, .ref a_this_house_texts, .ref a_this_house_acts, .ref a_this_house_debts, .ref a_this_house_payments, .ref a_this_house_purses, .ref a_this_house_gates, .ref a_this_house_stones, .ref a_this_house_told, .ref a_this_house_letters, .ref a_this_house_mentions, .ref a_this_house_loads, .ref a_this_house_prices, .int v_this_house_narrow, .int v_this_house_names])), (a_this_house_stones, .inr (8, [.int (3 : Int32), .int (12 : Int32), .ref a_this_house_stones_cells, .int v_this_house_stones_rows])), (a_this_house_stones_cells, .inl (cI, 36, .inl v_this_house_stones_cells))]) (fun s_1 => [(0, .ref a_this), (1, .int s_1.1), (2, .int s_1.2)]) (fun x_2 => [(a_this, .inr (9, [.ref a_this_house, .ref a_this_law])), (a_this_house, .inr (0, [.ref a_this_house_merchants, .ref a_this_house_texts, .ref a_this_house_acts, .ref a_this_house_debts, .ref a_this_house_payments, .ref a_this_house_purses, .ref a_this_house_gates, .ref a_this_house_stones, .ref a_this_house_told, .ref a_this_house_letters, .ref a_this_house_mentions, .ref a_this_house_loads, .ref a_this_house_prices, .int v_this_house_narrow, .int v_this_house_names])), (a_this_house_stones, .inr (8, [.int (3 : Int32), .int (12 : Int32), .ref a_this_house_stones_cells, .int v_this_house_stones_rows])), (a_this_house_stones_cells, .inl (cI, 36, .inl v_this_house_stones_cells))]) (fun x_2 => [(1, .int x_2.1)]) 45 hl_1 rfl rfl ?_ (fun s_1 o h hb_1 hr_1 hx_1 => ?_)
  · skip
    refine ii_iload_n 0 dX9_highestLower_45 rfl ?_
    cases h
    exact hQ _ _ dX9_highestLower_46
  · skip
    refine ii_iload_n 2 dX9_highestLower_4 rfl ?_
    refine ii_aload_n 0 dX9_highestLower_5 rfl ?_
    refine ii_get (C := RX9) (T := TX9) (N := 2) (ci := 9) izX9 0 rfl rfl 0 (by decide) kX9_9 rfl dX9_highestLower_6 ?_
    refine ii_get (C := RX0) (T := TX0) (N := 15) (ci := 0) izX0 1 rfl rfl 7 (by decide) kX9_49 rfl dX9_highestLower_9 ?_
    refine ii_get (C := RX8) (T := TX8) (N := 4) (ci := 8) izX8 2 rfl rfl 3 (by decide) kX9_34 rfl dX9_highestLower_12 ?_
    refine ii_icmp_ge (tgt := 45) h dX9_highestLower_15 (by decide) (fun h => ?_) (fun h => ?_)
    · skip
      refine ii_lv [1] rfl ?_
      cases h
      exact hx_1 (s_1.1, s_1.2) (hr_1 _ rfl)
    · skip
      refine ii_aload_n 0 dX9_highestLower_18 rfl ?_
      refine ii_aload_n 0 dX9_highestLower_19 rfl ?_
      refine ii_iload_n 2 dX9_highestLower_20 rfl ?_
      obtain ⟨c_3, hc_3, h⟩ := bnd h
      refine ii_callVl (As := [.int s_1.2]) (ws' := [(a_this, .inr (9, [.ref a_this_house, .ref a_this_law])), (a_this_house, .inr (0, [.ref a_this_house_merchants, .ref a_this_house_texts, .ref a_this_house_acts, .ref a_this_house_debts, .ref a_this_house_payments, .ref a_this_house_purses, .ref a_this_house_gates, .ref a_this_house_stones, .ref a_this_house_told, .ref a_this_house_letters, .ref a_this_house_mentions, .ref a_this_house_loads, .ref a_this_house_prices, .int v_this_house_narrow, .int v_this_house_names])), (a_this_house_stones, .inr (8, [.int (3 : Int32), .int (12 : Int32), .ref a_this_house_stones_cells, .int v_this_house_stones_rows])), (a_this_house_stones_cells, .inl (cI, 36, .inl v_this_house_stones_cells))]) (st := [.ref a_this]) (c_X9_lowerOf l D cI cJ cZ cH a_this a_this_house a_this_house_acts a_this_house_debts a_this_house_gates a_this_house_letters a_this_house_loads a_this_house_mentions a_this_house_merchants a_this_house_payments a_this_house_prices a_this_house_purses a_this_house_stones a_this_house_stones_cells a_this_house_texts a_this_house_told a_this_law v_this_house_names v_this_house_narrow v_this_house_stones_cells v_this_house_stones_rows s_1.2 hc_3) gzX9_52 rfl rfl rfl eV_X9_lowerOf ⟨Nat.le_of_ble_eq_true rfl, Nat.le_of_ble_eq_true rfl⟩ rfl 0 rfl rfl [0, 1, 2, 3] rfl rfl rfl rfl rfl (Nat.le_of_ble_eq_true rfl) (Nat.le_refl _) (Nat.le_refl _) rfl dX9_highestLower_21 ?_
      refine ii_iload_n 2 dX9_highestLower_24 rfl ?_
      refine ii_aload_n 0 dX9_highestLower_25 rfl ?_
      refine ii_iload_n 1 dX9_highestLower_26 rfl ?_
      obtain ⟨c_4, hc_4, h⟩ := bnd h
      refine ii_callVl (As := [.int s_1.1]) (ws' := [(a_this, .inr (9, [.ref a_this_house, .ref a_this_law])), (a_this_house, .inr (0, [.ref a_this_house_merchants, .ref a_this_house_texts, .ref a_this_house_acts, .ref a_this_house_debts, .ref a_this_house_payments, .ref a_this_house_purses, .ref a_this_house_gates, .ref a_this_house_stones, .ref a_this_house_told, .ref a_this_house_letters, .ref a_this_house_mentions, .ref a_this_house_loads, .ref a_this_house_prices, .int v_this_house_narrow, .int v_this_house_names])), (a_this_house_stones, .inr (8, [.int (3 : Int32), .int (12 : Int32), .ref a_this_house_stones_cells, .int v_this_house_stones_rows])), (a_this_house_stones_cells, .inl (cI, 36, .inl v_this_house_stones_cells))]) (st := [.int s_1.2, .long c_3, .ref a_this]) (c_X9_lowerOf l D cI cJ cZ cH a_this a_this_house a_this_house_acts a_this_house_debts a_this_house_gates a_this_house_letters a_this_house_loads a_this_house_mentions a_this_house_merchants a_this_house_payments a_this_house_prices a_this_house_purses a_this_house_stones a_this_house_stones_cells a_this_house_texts a_this_house_told a_this_law v_this_house_names v_this_house_narrow v_this_house_stones_cells v_this_house_stones_rows s_1.1 hc_4) gzX9_52 rfl rfl rfl eV_X9_lowerOf ⟨Nat.le_of_ble_eq_true rfl, Nat.le_of_ble_eq_true rfl⟩ rfl 0 rfl rfl [0, 1, 2, 3] rfl rfl rfl rfl rfl (Nat.le_of_ble_eq_true rfl) (Nat.le_refl _) (Nat.le_refl _) rfl dX9_highestLower_27 ?_
      refine ii_iload_n 1 dX9_highestLower_30 rfl ?_
      obtain ⟨c_5, hc_5, h⟩ := bnd h
      refine ii_callVi (As := [.long c_3, .int s_1.2, .long c_4, .int s_1.1]) (ws' := [(a_this, .inr (9, [.ref a_this_house, .ref a_this_law])), (a_this_house, .inr (0, [.ref a_this_house_merchants, .ref a_this_house_texts, .ref a_this_house_acts, .ref a_this_house_debts, .ref a_this_house_payments, .ref a_this_house_purses, .ref a_this_house_gates, .ref a_this_house_stones, .ref a_this_house_told, .ref a_this_house_letters, .ref a_this_house_mentions, .ref a_this_house_loads, .ref a_this_house_prices, .int v_this_house_narrow, .int v_this_house_names])), (a_this_house_stones, .inr (8, [.int (3 : Int32), .int (12 : Int32), .ref a_this_house_stones_cells, .int v_this_house_stones_rows])), (a_this_house_stones_cells, .inl (cI, 36, .inl v_this_house_stones_cells))]) (st := []) (c_X9_isAbove l D cI cJ cZ cH a_this a_this_house a_this_house_acts a_this_house_debts a_this_house_gates a_this_house_letters a_this_house_loads a_this_house_mentions a_this_house_merchants a_this_house_payments a_this_house_prices a_this_house_purses a_this_house_stones a_this_house_stones_cells a_this_house_texts a_this_house_told a_this_law v_this_house_names v_this_house_narrow v_this_house_stones_cells v_this_house_stones_rows c_3 s_1.2 c_4 s_1.1 hc_5) gzX9_56 rfl rfl rfl eV_X9_isAbove ⟨Nat.le_of_ble_eq_true rfl, Nat.le_of_ble_eq_true rfl⟩ rfl 0 rfl rfl [0, 1, 2, 3] rfl rfl rfl rfl rfl (Nat.le_of_ble_eq_true rfl) (Nat.le_refl _) (Nat.le_refl _) rfl dX9_highestLower_31 ?_
      refine ii_jn h (fun j_6 => [(a_this, .inr (9, [.ref a_this_house, .ref a_this_law])), (a_this_house, .inr (0, [.ref a_this_house_merchants, .ref a_this_house_texts, .ref a_this_house_acts, .ref a_this_house_debts, .ref a_this_house_payments, .ref a_this_house_purses, .ref a_this_house_gates, .ref a_this_house_stones, .ref a_this_house_told, .ref a_this_house_letters, .ref a_this_house_mentions, .ref a_this_house_loads, .ref a_this_house_prices, .int v_this_house_narrow, .int v_this_house_names])), (a_this_house_stones, .inr (8, [.int (3 : Int32), .int (12 : Int32), .ref a_this_house_stones_cells, .int v_this_house_stones_rows])), (a_this_house_stones_cells, .inl (cI, 36, .inl v_this_house_stones_cells))]) (fun j_6 => [(0, .ref a_this), (1, .int j_6), (2, .int s_1.2)]) 39 (fun j_6 => []) (fun j_6 h => ?_) (fun j_6 h hjj_6 => ?_)
      · skip
        refine ii_iinc (fun x_7 => [(2, .int x_7), (0, .ref a_this), (1, .int j_6)]) h 2 dX9_highestLower_39 rfl kc1 (by decide) (fun _ => rfl) (fun x_7 h => ?_)
        refine ii_goto (tgt := 4) dX9_highestLower_42 (by decide) ?_
        refine ii_lv [1, 2, 0] rfl ?_
        cases h
        exact hb_1 (j_6, x_7) rfl
      · skip
        refine ii_if_eq (tgt := 39) h dX9_highestLower_34 (by decide) (fun h => ?_) (fun h => ?_)
        · skip
          cases h
          exact hjj_6
        · skip
          refine ii_iload_n 2 dX9_highestLower_37 rfl ?_
          refine ii_istore_n (lv' := [(1, .int s_1.2), (0, .ref a_this), (2, .int s_1.2)]) dX9_highestLower_38 rfl (by decide) rfl ?_
          refine ii_lv [1, 0, 2] rfl ?_
          cases h
          exact hjj_6
set_option maxHeartbeats 4000000 in
set_option maxRecDepth 100000 in
theorem c_X9_lowestUpper (l : Launch) (D : va_G) (cI cJ cZ cH : ClassId) (a_this a_this_house a_this_house_acts a_this_house_debts a_this_house_gates a_this_house_letters a_this_house_loads a_this_house_mentions a_this_house_merchants a_this_house_payments a_this_house_prices a_this_house_purses a_this_house_stones a_this_house_stones_cells a_this_house_texts a_this_house_told a_this_law : Nat) (v_this_house_names : Int32) (v_this_house_narrow : Int32) (v_this_house_stones_cells : Nat → Int32) (v_this_house_stones_rows : Int32) {res : Int32} (h : F_X9_lowestUpper v_this_house_stones_cells v_this_house_stones_rows = some res) : CTi l yX9_lowestUpper wzX9_lowestUpper { frames := 3, cells := 0, slots := 0, locals := 72 } D [(cI, .int), (cJ, .long), (cZ, .boolean), (cH, .object "TinHouse$House")] [.ref a_this] [(a_this, .inr (9, [.ref a_this_house, .ref a_this_law])), (a_this_house, .inr (0, [.ref a_this_house_merchants, .ref a_this_house_texts, .ref a_this_house_acts, .ref a_this_house_debts, .ref a_this_house_payments, .ref a_this_house_purses, .ref a_this_house_gates, .ref a_this_house_stones, .ref a_this_house_told, .ref a_this_house_letters, .ref a_this_house_mentions, .ref a_this_house_loads, .ref a_this_house_prices, .int v_this_house_narrow, .int v_this_house_names])), (a_this_house_stones, .inr (8, [.int (3 : Int32), .int (12 : Int32), .ref a_this_house_stones_cells, .int v_this_house_stones_rows])), (a_this_house_stones_cells, .inl (cI, 36, .inl v_this_house_stones_cells))] res [(a_this, .inr (9, [.ref a_this_house, .ref a_this_law])), (a_this_house, .inr (0, [.ref a_this_house_merchants, .ref a_this_house_texts, .ref a_this_house_acts, .ref a_this_house_debts, .ref a_this_house_payments, .ref a_this_house_purses, .ref a_this_house_gates, .ref a_this_house_stones, .ref a_this_house_told, .ref a_this_house_letters, .ref a_this_house_mentions, .ref a_this_house_loads, .ref a_this_house_prices, .int v_this_house_narrow, .int v_this_house_names])), (a_this_house_stones, .inr (8, [.int (3 : Int32), .int (12 : Int32), .ref a_this_house_stones_cells, .int v_this_house_stones_rows])), (a_this_house_stones_cells, .inl (cI, 36, .inl v_this_house_stones_cells))] := by
  unfold F_X9_lowestUpper at h
  refine ii_metI (own := RX9) (lv0 := [(0, .ref a_this)]) (by decide) rfl rfl rfl (Nat.le_of_ble_eq_true rfl) (fun {p e s m args below meth c A Q} hQ => ?_)
  refine ii_iconst dX9_lowestUpper_0 kc0 ?_
  refine ii_istore_n (lv' := [(1, .int (0 : Int32)), (0, .ref a_this)]) dX9_lowestUpper_1 rfl (by decide) rfl ?_
  refine ii_iconst dX9_lowestUpper_2 kc1 ?_
  refine ii_istore_n (lv' := [(2, .int (1 : Int32)), (1, .int (0 : Int32)), (0, .ref a_this)]) dX9_lowestUpper_3 rfl (by decide) rfl ?_
  refine ii_lv [2, 1, 0] rfl ?_
  obtain ⟨x_2, hl_1, h⟩ := bnd h
  refine ii_loopX (fun s_1 => [(a_this, .inr (9, [.ref a_this_house, .ref a_this_law])), (a_this_house, .inr (0, [.ref a_this_house_merchants, .ref a_this_house_texts, .ref a_this_house_acts, .ref a_this_house_debts, .ref a_this_house_payments, .ref a_this_house_purses, .ref a_this_house_gates, .ref a_this_house_stones, .ref a_this_house_told, .ref a_this_house_letters, .ref a_this_house_mentions, .ref a_this_house_loads, .ref a_this_house_prices, .int v_this_house_narrow, .int v_this_house_names])), (a_this_house_stones, .inr (8, [.int (3 : Int32), .int (12 : Int32), .ref a_this_house_stones_cells, .int v_this_house_stones_rows])), (a_this_house_stones_cells, .inl (cI, 36, .inl v_this_house_stones_cells))]) (fun s_1 => [(0, .ref a_this), (1, .int s_1.1), (2, .int s_1.2)]) (fun x_2 => [(a_this, .inr (9, [.ref a_this_house, .ref a_this_law])), (a_this_house, .inr (0, [.ref a_this_house_merchants, .ref a_this_house_texts, .ref a_this_house_acts, .ref a_this_house_debts, .ref a_this_house_payments, .ref a_this_house_purses, .ref a_this_house_gates, .ref a_this_house_stones, .ref a_this_house_told, .ref a_this_house_letters, .ref a_this_house_mentions, .ref a_this_house_loads, .ref a_this_house_prices, .int v_this_house_narrow, .int v_this_house_names])), (a_this_house_stones, .inr (8, [.int (3 : Int32), .int (12 : Int32), .ref a_this_house_stones_cells, .int v_this_house_stones_rows])), (a_this_house_stones_cells, .inl (cI, 36, .inl v_this_house_stones_cells))]) (fun x_2 => [(1, .int x_2.1)]) 45 hl_1 rfl rfl ?_ (fun s_1 o h hb_1 hr_1 hx_1 => ?_)
  · skip
    refine ii_iload_n 0 dX9_lowestUpper_45 rfl ?_
    cases h
    exact hQ _ _ dX9_lowestUpper_46
  · skip
    refine ii_iload_n 2 dX9_lowestUpper_4 rfl ?_
    refine ii_aload_n 0 dX9_lowestUpper_5 rfl ?_
    refine ii_get (C := RX9) (T := TX9) (N := 2) (ci := 9) izX9 0 rfl rfl 0 (by decide) kX9_9 rfl dX9_lowestUpper_6 ?_
    refine ii_get (C := RX0) (T := TX0) (N := 15) (ci := 0) izX0 1 rfl rfl 7 (by decide) kX9_49 rfl dX9_lowestUpper_9 ?_
    refine ii_get (C := RX8) (T := TX8) (N := 4) (ci := 8) izX8 2 rfl rfl 3 (by decide) kX9_34 rfl dX9_lowestUpper_12 ?_
    refine ii_icmp_ge (tgt := 45) h dX9_lowestUpper_15 (by decide) (fun h => ?_) (fun h => ?_)
    · skip
      refine ii_lv [1] rfl ?_
      cases h
      exact hx_1 (s_1.1, s_1.2) (hr_1 _ rfl)
    · skip
      refine ii_aload_n 0 dX9_lowestUpper_18 rfl ?_
      refine ii_aload_n 0 dX9_lowestUpper_19 rfl ?_
      refine ii_iload_n 1 dX9_lowestUpper_20 rfl ?_
      obtain ⟨c_3, hc_3, h⟩ := bnd h
      refine ii_callVl (As := [.int s_1.1]) (ws' := [(a_this, .inr (9, [.ref a_this_house, .ref a_this_law])), (a_this_house, .inr (0, [.ref a_this_house_merchants, .ref a_this_house_texts, .ref a_this_house_acts, .ref a_this_house_debts, .ref a_this_house_payments, .ref a_this_house_purses, .ref a_this_house_gates, .ref a_this_house_stones, .ref a_this_house_told, .ref a_this_house_letters, .ref a_this_house_mentions, .ref a_this_house_loads, .ref a_this_house_prices, .int v_this_house_narrow, .int v_this_house_names])), (a_this_house_stones, .inr (8, [.int (3 : Int32), .int (12 : Int32), .ref a_this_house_stones_cells, .int v_this_house_stones_rows])), (a_this_house_stones_cells, .inl (cI, 36, .inl v_this_house_stones_cells))]) (st := [.ref a_this]) (c_X9_upperOf l D cI cJ cZ cH a_this a_this_house a_this_house_acts a_this_house_debts a_this_house_gates a_this_house_letters a_this_house_loads a_this_house_mentions a_this_house_merchants a_this_house_payments a_this_house_prices a_this_house_purses a_this_house_stones a_this_house_stones_cells a_this_house_texts a_this_house_told a_this_law v_this_house_names v_this_house_narrow v_this_house_stones_cells v_this_house_stones_rows s_1.1 hc_3) gzX9_60 rfl rfl rfl eV_X9_upperOf ⟨Nat.le_of_ble_eq_true rfl, Nat.le_of_ble_eq_true rfl⟩ rfl 0 rfl rfl [0, 1, 2, 3] rfl rfl rfl rfl rfl (Nat.le_of_ble_eq_true rfl) (Nat.le_refl _) (Nat.le_refl _) rfl dX9_lowestUpper_21 ?_
      refine ii_iload_n 1 dX9_lowestUpper_24 rfl ?_
      refine ii_aload_n 0 dX9_lowestUpper_25 rfl ?_
      refine ii_iload_n 2 dX9_lowestUpper_26 rfl ?_
      obtain ⟨c_4, hc_4, h⟩ := bnd h
      refine ii_callVl (As := [.int s_1.2]) (ws' := [(a_this, .inr (9, [.ref a_this_house, .ref a_this_law])), (a_this_house, .inr (0, [.ref a_this_house_merchants, .ref a_this_house_texts, .ref a_this_house_acts, .ref a_this_house_debts, .ref a_this_house_payments, .ref a_this_house_purses, .ref a_this_house_gates, .ref a_this_house_stones, .ref a_this_house_told, .ref a_this_house_letters, .ref a_this_house_mentions, .ref a_this_house_loads, .ref a_this_house_prices, .int v_this_house_narrow, .int v_this_house_names])), (a_this_house_stones, .inr (8, [.int (3 : Int32), .int (12 : Int32), .ref a_this_house_stones_cells, .int v_this_house_stones_rows])), (a_this_house_stones_cells, .inl (cI, 36, .inl v_this_house_stones_cells))]) (st := [.int s_1.1, .long c_3, .ref a_this]) (c_X9_upperOf l D cI cJ cZ cH a_this a_this_house a_this_house_acts a_this_house_debts a_this_house_gates a_this_house_letters a_this_house_loads a_this_house_mentions a_this_house_merchants a_this_house_payments a_this_house_prices a_this_house_purses a_this_house_stones a_this_house_stones_cells a_this_house_texts a_this_house_told a_this_law v_this_house_names v_this_house_narrow v_this_house_stones_cells v_this_house_stones_rows s_1.2 hc_4) gzX9_60 rfl rfl rfl eV_X9_upperOf ⟨Nat.le_of_ble_eq_true rfl, Nat.le_of_ble_eq_true rfl⟩ rfl 0 rfl rfl [0, 1, 2, 3] rfl rfl rfl rfl rfl (Nat.le_of_ble_eq_true rfl) (Nat.le_refl _) (Nat.le_refl _) rfl dX9_lowestUpper_27 ?_
      refine ii_iload_n 2 dX9_lowestUpper_30 rfl ?_
      obtain ⟨c_5, hc_5, h⟩ := bnd h
      refine ii_callVi (As := [.long c_3, .int s_1.1, .long c_4, .int s_1.2]) (ws' := [(a_this, .inr (9, [.ref a_this_house, .ref a_this_law])), (a_this_house, .inr (0, [.ref a_this_house_merchants, .ref a_this_house_texts, .ref a_this_house_acts, .ref a_this_house_debts, .ref a_this_house_payments, .ref a_this_house_purses, .ref a_this_house_gates, .ref a_this_house_stones, .ref a_this_house_told, .ref a_this_house_letters, .ref a_this_house_mentions, .ref a_this_house_loads, .ref a_this_house_prices, .int v_this_house_narrow, .int v_this_house_names])), (a_this_house_stones, .inr (8, [.int (3 : Int32), .int (12 : Int32), .ref a_this_house_stones_cells, .int v_this_house_stones_rows])), (a_this_house_stones_cells, .inl (cI, 36, .inl v_this_house_stones_cells))]) (st := []) (c_X9_isAbove l D cI cJ cZ cH a_this a_this_house a_this_house_acts a_this_house_debts a_this_house_gates a_this_house_letters a_this_house_loads a_this_house_mentions a_this_house_merchants a_this_house_payments a_this_house_prices a_this_house_purses a_this_house_stones a_this_house_stones_cells a_this_house_texts a_this_house_told a_this_law v_this_house_names v_this_house_narrow v_this_house_stones_cells v_this_house_stones_rows c_3 s_1.1 c_4 s_1.2 hc_5) gzX9_56 rfl rfl rfl eV_X9_isAbove ⟨Nat.le_of_ble_eq_true rfl, Nat.le_of_ble_eq_true rfl⟩ rfl 0 rfl rfl [0, 1, 2, 3] rfl rfl rfl rfl rfl (Nat.le_of_ble_eq_true rfl) (Nat.le_refl _) (Nat.le_refl _) rfl dX9_lowestUpper_31 ?_
      refine ii_jn h (fun j_6 => [(a_this, .inr (9, [.ref a_this_house, .ref a_this_law])), (a_this_house, .inr (0, [.ref a_this_house_merchants, .ref a_this_house_texts, .ref a_this_house_acts, .ref a_this_house_debts, .ref a_this_house_payments, .ref a_this_house_purses, .ref a_this_house_gates, .ref a_this_house_stones, .ref a_this_house_told, .ref a_this_house_letters, .ref a_this_house_mentions, .ref a_this_house_loads, .ref a_this_house_prices, .int v_this_house_narrow, .int v_this_house_names])), (a_this_house_stones, .inr (8, [.int (3 : Int32), .int (12 : Int32), .ref a_this_house_stones_cells, .int v_this_house_stones_rows])), (a_this_house_stones_cells, .inl (cI, 36, .inl v_this_house_stones_cells))]) (fun j_6 => [(0, .ref a_this), (1, .int j_6), (2, .int s_1.2)]) 39 (fun j_6 => []) (fun j_6 h => ?_) (fun j_6 h hjj_6 => ?_)
      · skip
        refine ii_iinc (fun x_7 => [(2, .int x_7), (0, .ref a_this), (1, .int j_6)]) h 2 dX9_lowestUpper_39 rfl kc1 (by decide) (fun _ => rfl) (fun x_7 h => ?_)
        refine ii_goto (tgt := 4) dX9_lowestUpper_42 (by decide) ?_
        refine ii_lv [1, 2, 0] rfl ?_
        cases h
        exact hb_1 (j_6, x_7) rfl
      · skip
        refine ii_if_eq (tgt := 39) h dX9_lowestUpper_34 (by decide) (fun h => ?_) (fun h => ?_)
        · skip
          cases h
          exact hjj_6
        · skip
          refine ii_iload_n 2 dX9_lowestUpper_37 rfl ?_
          refine ii_istore_n (lv' := [(1, .int s_1.2), (0, .ref a_this), (2, .int s_1.2)]) dX9_lowestUpper_38 rfl (by decide) rfl ?_
          refine ii_lv [1, 0, 2] rfl ?_
          cases h
          exact hjj_6
set_option maxHeartbeats 4000000 in
set_option maxRecDepth 100000 in
theorem c_X9_stonesMeet (l : Launch) (D : va_G) (cI cJ cZ cH : ClassId) (a_this a_this_house a_this_house_acts a_this_house_debts a_this_house_gates a_this_house_letters a_this_house_loads a_this_house_mentions a_this_house_merchants a_this_house_payments a_this_house_prices a_this_house_purses a_this_house_stones a_this_house_stones_cells a_this_house_texts a_this_house_told a_this_law : Nat) (v_this_house_names : Int32) (v_this_house_narrow : Int32) (v_this_house_stones_cells : Nat → Int32) (v_this_house_stones_rows : Int32) {res : Int32} (h : F_X9_stonesMeet v_this_house_stones_cells v_this_house_stones_rows = some res) : CTi l yX9_stonesMeet wzX9_stonesMeet { frames := 4, cells := 0, slots := 0, locals := 94 } D [(cI, .int), (cJ, .long), (cZ, .boolean), (cH, .object "TinHouse$House")] [.ref a_this] [(a_this, .inr (9, [.ref a_this_house, .ref a_this_law])), (a_this_house, .inr (0, [.ref a_this_house_merchants, .ref a_this_house_texts, .ref a_this_house_acts, .ref a_this_house_debts, .ref a_this_house_payments, .ref a_this_house_purses, .ref a_this_house_gates, .ref a_this_house_stones, .ref a_this_house_told, .ref a_this_house_letters, .ref a_this_house_mentions, .ref a_this_house_loads, .ref a_this_house_prices, .int v_this_house_narrow, .int v_this_house_names])), (a_this_house_stones, .inr (8, [.int (3 : Int32), .int (12 : Int32), .ref a_this_house_stones_cells, .int v_this_house_stones_rows])), (a_this_house_stones_cells, .inl (cI, 36, .inl v_this_house_stones_cells))] res [(a_this, .inr (9, [.ref a_this_house, .ref a_this_law])), (a_this_house, .inr (0, [.ref a_this_house_merchants, .ref a_this_house_texts, .ref a_this_house_acts, .ref a_this_house_debts, .ref a_this_house_payments, .ref a_this_house_purses, .ref a_this_house_gates, .ref a_this_house_stones, .ref a_this_house_told, .ref a_this_house_letters, .ref a_this_house_mentions, .ref a_this_house_loads, .ref a_this_house_prices, .int v_this_house_narrow, .int v_this_house_names])), (a_this_house_stones, .inr (8, [.int (3 : Int32), .int (12 : Int32), .ref a_this_house_stones_cells, .int v_this_house_stones_rows])), (a_this_house_stones_cells, .inl (cI, 36, .inl v_this_house_stones_cells))] := by
  unfold F_X9_stonesMeet at h
  refine ii_metZ (own := RX9) (lv0 := [(0, .ref a_this)]) (by decide) rfl rfl rfl (Nat.le_of_ble_eq_true rfl) (fun {p e s m args below meth c A Q} hQ => ?_)
  refine ii_aload_n 0 dX9_stonesMeet_0 rfl ?_
  obtain ⟨c_1, hc_1, h⟩ := bnd h
  refine ii_callVi (As := []) (ws' := [(a_this, .inr (9, [.ref a_this_house, .ref a_this_law])), (a_this_house, .inr (0, [.ref a_this_house_merchants, .ref a_this_house_texts, .ref a_this_house_acts, .ref a_this_house_debts, .ref a_this_house_payments, .ref a_this_house_purses, .ref a_this_house_gates, .ref a_this_house_stones, .ref a_this_house_told, .ref a_this_house_letters, .ref a_this_house_mentions, .ref a_this_house_loads, .ref a_this_house_prices, .int v_this_house_narrow, .int v_this_house_names])), (a_this_house_stones, .inr (8, [.int (3 : Int32), .int (12 : Int32), .ref a_this_house_stones_cells, .int v_this_house_stones_rows])), (a_this_house_stones_cells, .inl (cI, 36, .inl v_this_house_stones_cells))]) (st := []) (c_X9_highestLower l D cI cJ cZ cH a_this a_this_house a_this_house_acts a_this_house_debts a_this_house_gates a_this_house_letters a_this_house_loads a_this_house_mentions a_this_house_merchants a_this_house_payments a_this_house_prices a_this_house_purses a_this_house_stones a_this_house_stones_cells a_this_house_texts a_this_house_told a_this_law v_this_house_names v_this_house_narrow v_this_house_stones_cells v_this_house_stones_rows hc_1) gzX9_63 rfl rfl rfl eV_X9_highestLower ⟨Nat.le_of_ble_eq_true rfl, Nat.le_of_ble_eq_true rfl⟩ rfl 0 rfl rfl [0, 1, 2, 3] rfl rfl rfl rfl rfl (Nat.le_of_ble_eq_true rfl) (Nat.le_refl _) (Nat.le_refl _) rfl dX9_stonesMeet_1 ?_
  refine ii_istore_n (lv' := [(1, .int c_1), (0, .ref a_this)]) dX9_stonesMeet_4 rfl (by decide) rfl ?_
  refine ii_aload_n 1 dX9_stonesMeet_5 rfl ?_
  obtain ⟨c_2, hc_2, h⟩ := bnd h
  refine ii_callVi (As := []) (ws' := [(a_this, .inr (9, [.ref a_this_house, .ref a_this_law])), (a_this_house, .inr (0, [.ref a_this_house_merchants, .ref a_this_house_texts, .ref a_this_house_acts, .ref a_this_house_debts, .ref a_this_house_payments, .ref a_this_house_purses, .ref a_this_house_gates, .ref a_this_house_stones, .ref a_this_house_told, .ref a_this_house_letters, .ref a_this_house_mentions, .ref a_this_house_loads, .ref a_this_house_prices, .int v_this_house_narrow, .int v_this_house_names])), (a_this_house_stones, .inr (8, [.int (3 : Int32), .int (12 : Int32), .ref a_this_house_stones_cells, .int v_this_house_stones_rows])), (a_this_house_stones_cells, .inl (cI, 36, .inl v_this_house_stones_cells))]) (st := []) (c_X9_lowestUpper l D cI cJ cZ cH a_this a_this_house a_this_house_acts a_this_house_debts a_this_house_gates a_this_house_letters a_this_house_loads a_this_house_mentions a_this_house_merchants a_this_house_payments a_this_house_prices a_this_house_purses a_this_house_stones a_this_house_stones_cells a_this_house_texts a_this_house_told a_this_law v_this_house_names v_this_house_narrow v_this_house_stones_cells v_this_house_stones_rows hc_2) gzX9_67 rfl rfl rfl eV_X9_lowestUpper ⟨Nat.le_of_ble_eq_true rfl, Nat.le_of_ble_eq_true rfl⟩ rfl 0 rfl rfl [0, 1, 2, 3] rfl rfl rfl rfl rfl (Nat.le_of_ble_eq_true rfl) (Nat.le_refl _) (Nat.le_refl _) rfl dX9_stonesMeet_6 ?_
  refine ii_istore_n (lv' := [(2, .int c_2), (1, .int c_1), (0, .ref a_this)]) dX9_stonesMeet_9 rfl (by decide) rfl ?_
  refine ii_aload_n 2 dX9_stonesMeet_10 rfl ?_
  refine ii_get (C := RX9) (T := TX9) (N := 2) (ci := 9) izX9 0 rfl rfl 0 (by decide) kX9_9 rfl dX9_stonesMeet_11 ?_
  refine ii_get (C := RX0) (T := TX0) (N := 15) (ci := 0) izX0 1 rfl rfl 7 (by decide) kX9_49 rfl dX9_stonesMeet_14 ?_
  refine ii_get (C := RX8) (T := TX8) (N := 4) (ci := 8) izX8 2 rfl rfl 3 (by decide) kX9_34 rfl dX9_stonesMeet_17 ?_
  refine ii_jn h (fun j_3 => [(a_this, .inr (9, [.ref a_this_house, .ref a_this_law])), (a_this_house, .inr (0, [.ref a_this_house_merchants, .ref a_this_house_texts, .ref a_this_house_acts, .ref a_this_house_debts, .ref a_this_house_payments, .ref a_this_house_purses, .ref a_this_house_gates, .ref a_this_house_stones, .ref a_this_house_told, .ref a_this_house_letters, .ref a_this_house_mentions, .ref a_this_house_loads, .ref a_this_house_prices, .int v_this_house_narrow, .int v_this_house_names])), (a_this_house_stones, .inr (8, [.int (3 : Int32), .int (12 : Int32), .ref a_this_house_stones_cells, .int v_this_house_stones_rows])), (a_this_house_stones_cells, .inl (cI, 36, .inl v_this_house_stones_cells))]) (fun j_3 => []) 47 (fun j_3 => [.int j_3]) (fun j_3 h => ?_) (fun j_3 h hjj_3 => ?_)
  · skip
    refine ii_topB h (fun t_7 hz_8 h => ?_)
    cases h
    exact hQ _ _ dX9_stonesMeet_47 hz_8
  · skip
    refine ii_if_le (tgt := 46) h dX9_stonesMeet_20 (by decide) (fun h => ?_) (fun h => ?_)
    · skip
      refine ii_iconst dX9_stonesMeet_46 kc0 ?_
      refine ii_lv [] rfl ?_
      cases h
      exact hjj_3
    · skip
      refine ii_aload_n 2 dX9_stonesMeet_23 rfl ?_
      refine ii_aload_n 2 dX9_stonesMeet_24 rfl ?_
      refine ii_iload_n 1 dX9_stonesMeet_25 rfl ?_
      obtain ⟨c_4, hc_4, h⟩ := bnd h
      refine ii_callVl (As := [.int c_1]) (ws' := [(a_this, .inr (9, [.ref a_this_house, .ref a_this_law])), (a_this_house, .inr (0, [.ref a_this_house_merchants, .ref a_this_house_texts, .ref a_this_house_acts, .ref a_this_house_debts, .ref a_this_house_payments, .ref a_this_house_purses, .ref a_this_house_gates, .ref a_this_house_stones, .ref a_this_house_told, .ref a_this_house_letters, .ref a_this_house_mentions, .ref a_this_house_loads, .ref a_this_house_prices, .int v_this_house_narrow, .int v_this_house_names])), (a_this_house_stones, .inr (8, [.int (3 : Int32), .int (12 : Int32), .ref a_this_house_stones_cells, .int v_this_house_stones_rows])), (a_this_house_stones_cells, .inl (cI, 36, .inl v_this_house_stones_cells))]) (st := [.ref a_this]) (c_X9_lowerOf l D cI cJ cZ cH a_this a_this_house a_this_house_acts a_this_house_debts a_this_house_gates a_this_house_letters a_this_house_loads a_this_house_mentions a_this_house_merchants a_this_house_payments a_this_house_prices a_this_house_purses a_this_house_stones a_this_house_stones_cells a_this_house_texts a_this_house_told a_this_law v_this_house_names v_this_house_narrow v_this_house_stones_cells v_this_house_stones_rows c_1 hc_4) gzX9_52 rfl rfl rfl eV_X9_lowerOf ⟨Nat.le_of_ble_eq_true rfl, Nat.le_of_ble_eq_true rfl⟩ rfl 0 rfl rfl [0, 1, 2, 3] rfl rfl rfl rfl rfl (Nat.le_of_ble_eq_true rfl) (Nat.le_refl _) (Nat.le_refl _) rfl dX9_stonesMeet_26 ?_
      refine ii_iload_n 1 dX9_stonesMeet_29 rfl ?_
      refine ii_aload_n 2 dX9_stonesMeet_30 rfl ?_
      refine ii_iload_n 0 dX9_stonesMeet_31 rfl ?_
      obtain ⟨c_5, hc_5, h⟩ := bnd h
      refine ii_callVl (As := [.int c_2]) (ws' := [(a_this, .inr (9, [.ref a_this_house, .ref a_this_law])), (a_this_house, .inr (0, [.ref a_this_house_merchants, .ref a_this_house_texts, .ref a_this_house_acts, .ref a_this_house_debts, .ref a_this_house_payments, .ref a_this_house_purses, .ref a_this_house_gates, .ref a_this_house_stones, .ref a_this_house_told, .ref a_this_house_letters, .ref a_this_house_mentions, .ref a_this_house_loads, .ref a_this_house_prices, .int v_this_house_narrow, .int v_this_house_names])), (a_this_house_stones, .inr (8, [.int (3 : Int32), .int (12 : Int32), .ref a_this_house_stones_cells, .int v_this_house_stones_rows])), (a_this_house_stones_cells, .inl (cI, 36, .inl v_this_house_stones_cells))]) (st := [.int c_1, .long c_4, .ref a_this]) (c_X9_upperOf l D cI cJ cZ cH a_this a_this_house a_this_house_acts a_this_house_debts a_this_house_gates a_this_house_letters a_this_house_loads a_this_house_mentions a_this_house_merchants a_this_house_payments a_this_house_prices a_this_house_purses a_this_house_stones a_this_house_stones_cells a_this_house_texts a_this_house_told a_this_law v_this_house_names v_this_house_narrow v_this_house_stones_cells v_this_house_stones_rows c_2 hc_5) gzX9_60 rfl rfl rfl eV_X9_upperOf ⟨Nat.le_of_ble_eq_true rfl, Nat.le_of_ble_eq_true rfl⟩ rfl 0 rfl rfl [0, 1, 2, 3] rfl rfl rfl rfl rfl (Nat.le_of_ble_eq_true rfl) (Nat.le_refl _) (Nat.le_refl _) rfl dX9_stonesMeet_32 ?_
      refine ii_iload_n 0 dX9_stonesMeet_35 rfl ?_
      obtain ⟨c_6, hc_6, h⟩ := bnd h
      refine ii_callVi (As := [.long c_4, .int c_1, .long c_5, .int c_2]) (ws' := [(a_this, .inr (9, [.ref a_this_house, .ref a_this_law])), (a_this_house, .inr (0, [.ref a_this_house_merchants, .ref a_this_house_texts, .ref a_this_house_acts, .ref a_this_house_debts, .ref a_this_house_payments, .ref a_this_house_purses, .ref a_this_house_gates, .ref a_this_house_stones, .ref a_this_house_told, .ref a_this_house_letters, .ref a_this_house_mentions, .ref a_this_house_loads, .ref a_this_house_prices, .int v_this_house_narrow, .int v_this_house_names])), (a_this_house_stones, .inr (8, [.int (3 : Int32), .int (12 : Int32), .ref a_this_house_stones_cells, .int v_this_house_stones_rows])), (a_this_house_stones_cells, .inl (cI, 36, .inl v_this_house_stones_cells))]) (st := []) (c_X9_isAbove l D cI cJ cZ cH a_this a_this_house a_this_house_acts a_this_house_debts a_this_house_gates a_this_house_letters a_this_house_loads a_this_house_mentions a_this_house_merchants a_this_house_payments a_this_house_prices a_this_house_purses a_this_house_stones a_this_house_stones_cells a_this_house_texts a_this_house_told a_this_law v_this_house_names v_this_house_narrow v_this_house_stones_cells v_this_house_stones_rows c_4 c_1 c_5 c_2 hc_6) gzX9_56 rfl rfl rfl eV_X9_isAbove ⟨Nat.le_of_ble_eq_true rfl, Nat.le_of_ble_eq_true rfl⟩ rfl 0 rfl rfl [0, 1, 2, 3] rfl rfl rfl rfl rfl (Nat.le_of_ble_eq_true rfl) (Nat.le_refl _) (Nat.le_refl _) rfl dX9_stonesMeet_36 ?_
      refine ii_if_ne (tgt := 46) h dX9_stonesMeet_39 (by decide) (fun h => ?_) (fun h => ?_)
      · skip
        refine ii_iconst dX9_stonesMeet_46 kc0 ?_
        refine ii_lv [] rfl ?_
        cases h
        exact hjj_3
      · skip
        refine ii_iconst dX9_stonesMeet_42 kc1 ?_
        refine ii_goto (tgt := 47) dX9_stonesMeet_43 (by decide) ?_
        refine ii_lv [] rfl ?_
        cases h
        exact hjj_3
set_option maxHeartbeats 4000000 in
set_option maxRecDepth 100000 in
theorem c_X10_know (l : Launch) (D : va_G) (cI cJ cZ cH : ClassId) (a_this a_this_ahead a_this_found a_this_house a_this_house_acts a_this_house_debts a_this_house_gates a_this_house_letters a_this_house_loads a_this_house_mentions a_this_house_merchants a_this_house_payments a_this_house_prices a_this_house_purses a_this_house_stones a_this_house_texts a_this_house_told a_this_house_told_cells a_this_row : Nat) (v_this_ahead : Nat → Int32) (v_this_house_names : Int32) (v_this_house_narrow : Int32) (v_this_house_told_cells : Nat → Int32) (v_this_house_told_rows : Int32) (p0 : Int32) {res : (Nat → Int32)} (h : F_X10_know v_this_ahead v_this_house_told_cells v_this_house_told_rows p0 = some res) : CTv l yX10_know wzX10_know { frames := 2, cells := 0, slots := 0, locals := 46 } D [(cI, .int), (cJ, .long), (cZ, .boolean), (cH, .object "TinHouse$House")] [.ref a_this, .int p0] [(a_this, .inr (10, [.ref a_this_house, .ref a_this_ahead, .ref a_this_row, .ref a_this_found])), (a_this_ahead, .inl (cI, 9, .inl v_this_ahead)), (a_this_house, .inr (0, [.ref a_this_house_merchants, .ref a_this_house_texts, .ref a_this_house_acts, .ref a_this_house_debts, .ref a_this_house_payments, .ref a_this_house_purses, .ref a_this_house_gates, .ref a_this_house_stones, .ref a_this_house_told, .ref a_this_house_letters, .ref a_this_house_mentions, .ref a_this_house_loads, .ref a_this_house_prices, .int v_this_house_narrow, .int v_this_house_names])), (a_this_house_told, .inr (8, [.int (3 : Int32), .int (40 : Int32), .ref a_this_house_told_cells, .int v_this_house_told_rows])), (a_this_house_told_cells, .inl (cI, 120, .inl v_this_house_told_cells))] [(a_this, .inr (10, [.ref a_this_house, .ref a_this_ahead, .ref a_this_row, .ref a_this_found])), (a_this_ahead, .inl (cI, 9, .inl res)), (a_this_house, .inr (0, [.ref a_this_house_merchants, .ref a_this_house_texts, .ref a_this_house_acts, .ref a_this_house_debts, .ref a_this_house_payments, .ref a_this_house_purses, .ref a_this_house_gates, .ref a_this_house_stones, .ref a_this_house_told, .ref a_this_house_letters, .ref a_this_house_mentions, .ref a_this_house_loads, .ref a_this_house_prices, .int v_this_house_narrow, .int v_this_house_names])), (a_this_house_told, .inr (8, [.int (3 : Int32), .int (40 : Int32), .ref a_this_house_told_cells, .int v_this_house_told_rows])), (a_this_house_told_cells, .inl (cI, 120, .inl v_this_house_told_cells))] := by
  unfold F_X10_know at h
  refine ii_metV (own := RX10) (lv0 := [(0, .ref a_this), (1, .int p0)]) (by decide) rfl rfl rfl (Nat.le_of_ble_eq_true rfl) (fun {p e s m args below meth c A Q} hQ => ?_)
  refine ii_aload_n 0 dX10_know_0 rfl ?_
  refine ii_get (C := RX10) (T := TX10) (N := 4) (ci := 10) izX10 0 rfl rfl 1 (by decide) kX10_9 rfl dX10_know_1 ?_
  refine ii_iconst dX10_know_4 kc0 ?_
  obtain ⟨c_1, hc_1, h⟩ := bnd h
  refine ii_callJv (As := [.ref a_this_ahead, .int (0 : Int32)]) (ws' := [(a_this, .inr (10, [.ref a_this_house, .ref a_this_ahead, .ref a_this_row, .ref a_this_found])), (a_this_ahead, .inl (cI, 9, .inl c_1)), (a_this_house, .inr (0, [.ref a_this_house_merchants, .ref a_this_house_texts, .ref a_this_house_acts, .ref a_this_house_debts, .ref a_this_house_payments, .ref a_this_house_purses, .ref a_this_house_gates, .ref a_this_house_stones, .ref a_this_house_told, .ref a_this_house_letters, .ref a_this_house_mentions, .ref a_this_house_loads, .ref a_this_house_prices, .int v_this_house_narrow, .int v_this_house_names])), (a_this_house_told, .inr (8, [.int (3 : Int32), .int (40 : Int32), .ref a_this_house_told_cells, .int v_this_house_told_rows])), (a_this_house_told_cells, .inl (cI, 120, .inl v_this_house_told_cells))]) (st := []) (c_J7_fill_53178 l D cI cJ cZ cH a_this_ahead 9 v_this_ahead (0 : Int32) hc_1) gzX10_25 rfl rfl rfl eJ_J7_fill_53178 ⟨Nat.le_of_ble_eq_true rfl, Nat.le_of_ble_eq_true rfl⟩ rfl [1] rfl rfl rfl rfl rfl (Nat.le_of_ble_eq_true rfl) (Nat.le_refl _) (Nat.le_refl _) rfl dX10_know_5 ?_
  refine ii_iconst dX10_know_8 kc0 ?_
  refine ii_istore_n (lv' := [(2, .int (0 : Int32)), (0, .ref a_this), (1, .int p0)]) dX10_know_9 rfl (by decide) rfl ?_
  refine ii_lv [1, 2, 0] rfl ?_
  obtain ⟨x_3, hl_2, h⟩ := bnd h
  refine ii_loopX (fun s_2 => [(a_this, .inr (10, [.ref a_this_house, .ref a_this_ahead, .ref a_this_row, .ref a_this_found])), (a_this_ahead, .inl (cI, 9, .inl s_2.2)), (a_this_house, .inr (0, [.ref a_this_house_merchants, .ref a_this_house_texts, .ref a_this_house_acts, .ref a_this_house_debts, .ref a_this_house_payments, .ref a_this_house_purses, .ref a_this_house_gates, .ref a_this_house_stones, .ref a_this_house_told, .ref a_this_house_letters, .ref a_this_house_mentions, .ref a_this_house_loads, .ref a_this_house_prices, .int v_this_house_narrow, .int v_this_house_names])), (a_this_house_told, .inr (8, [.int (3 : Int32), .int (40 : Int32), .ref a_this_house_told_cells, .int v_this_house_told_rows])), (a_this_house_told_cells, .inl (cI, 120, .inl v_this_house_told_cells))]) (fun s_2 => [(0, .ref a_this), (1, .int p0), (2, .int s_2.1)]) (fun x_3 => [(a_this, .inr (10, [.ref a_this_house, .ref a_this_ahead, .ref a_this_row, .ref a_this_found])), (a_this_ahead, .inl (cI, 9, .inl x_3.2)), (a_this_house, .inr (0, [.ref a_this_house_merchants, .ref a_this_house_texts, .ref a_this_house_acts, .ref a_this_house_debts, .ref a_this_house_payments, .ref a_this_house_purses, .ref a_this_house_gates, .ref a_this_house_stones, .ref a_this_house_told, .ref a_this_house_letters, .ref a_this_house_mentions, .ref a_this_house_loads, .ref a_this_house_prices, .int v_this_house_narrow, .int v_this_house_names])), (a_this_house_told, .inr (8, [.int (3 : Int32), .int (40 : Int32), .ref a_this_house_told_cells, .int v_this_house_told_rows])), (a_this_house_told_cells, .inl (cI, 120, .inl v_this_house_told_cells))]) (fun x_3 => [(0, .ref a_this)]) 95 hl_2 rfl rfl ?_ (fun s_2 o h hb_2 hr_2 hx_2 => ?_)
  · skip
    refine ii_iconst dX10_know_95 kc0 ?_
    refine ii_istore_n (lv' := [(2, .int (0 : Int32)), (0, .ref a_this)]) dX10_know_96 rfl (by decide) rfl ?_
    refine ii_lv [1, 0] rfl ?_
    obtain ⟨x_12, hl_11, h⟩ := bnd h
    refine ii_loopX (fun s_11 => [(a_this, .inr (10, [.ref a_this_house, .ref a_this_ahead, .ref a_this_row, .ref a_this_found])), (a_this_ahead, .inl (cI, 9, .inl s_11.2)), (a_this_house, .inr (0, [.ref a_this_house_merchants, .ref a_this_house_texts, .ref a_this_house_acts, .ref a_this_house_debts, .ref a_this_house_payments, .ref a_this_house_purses, .ref a_this_house_gates, .ref a_this_house_stones, .ref a_this_house_told, .ref a_this_house_letters, .ref a_this_house_mentions, .ref a_this_house_loads, .ref a_this_house_prices, .int v_this_house_narrow, .int v_this_house_names])), (a_this_house_told, .inr (8, [.int (3 : Int32), .int (40 : Int32), .ref a_this_house_told_cells, .int v_this_house_told_rows])), (a_this_house_told_cells, .inl (cI, 120, .inl v_this_house_told_cells))]) (fun s_11 => [(0, .ref a_this), (2, .int s_11.1)]) (fun x_12 => [(a_this, .inr (10, [.ref a_this_house, .ref a_this_ahead, .ref a_this_row, .ref a_this_found])), (a_this_ahead, .inl (cI, 9, .inl x_12.2)), (a_this_house, .inr (0, [.ref a_this_house_merchants, .ref a_this_house_texts, .ref a_this_house_acts, .ref a_this_house_debts, .ref a_this_house_payments, .ref a_this_house_purses, .ref a_this_house_gates, .ref a_this_house_stones, .ref a_this_house_told, .ref a_this_house_letters, .ref a_this_house_mentions, .ref a_this_house_loads, .ref a_this_house_prices, .int v_this_house_narrow, .int v_this_house_names])), (a_this_house_told, .inr (8, [.int (3 : Int32), .int (40 : Int32), .ref a_this_house_told_cells, .int v_this_house_told_rows])), (a_this_house_told_cells, .inl (cI, 120, .inl v_this_house_told_cells))]) (fun x_12 => []) 158 hl_11 rfl rfl ?_ (fun s_11 o h hb_11 hr_11 hx_11 => ?_)
    · skip
      cases h
      exact hQ _ _ dX10_know_158
    · skip
      refine ii_iload_n 1 dX10_know_97 rfl ?_
      refine ii_aload_n 0 dX10_know_98 rfl ?_
      refine ii_get (C := RX10) (T := TX10) (N := 4) (ci := 10) izX10 0 rfl rfl 1 (by decide) kX10_9 rfl dX10_know_99 ?_
      refine ii_alen (v := (9 : Int32)) 1 0 rfl rfl rfl dX10_know_102 ?_
      refine ii_icmp_ge (tgt := 158) h dX10_know_103 (by decide) (fun h => ?_) (fun h => ?_)
      · skip
        refine ii_lv [] rfl ?_
        cases h
        exact hx_11 (s_11.1, s_11.2) (hr_11 _ rfl)
      · skip
        refine ii_iconst dX10_know_106 kc0 ?_
        refine ii_istore_n (lv' := [(3, .int (0 : Int32)), (0, .ref a_this), (2, .int s_11.1)]) dX10_know_107 rfl (by decide) rfl ?_
        refine ii_lv [1, 2, 0] rfl ?_
        obtain ⟨x_14, hl_13, h⟩ := bnd h
        refine ii_loopX (fun s_13 => [(a_this, .inr (10, [.ref a_this_house, .ref a_this_ahead, .ref a_this_row, .ref a_this_found])), (a_this_ahead, .inl (cI, 9, .inl s_13.2)), (a_this_house, .inr (0, [.ref a_this_house_merchants, .ref a_this_house_texts, .ref a_this_house_acts, .ref a_this_house_debts, .ref a_this_house_payments, .ref a_this_house_purses, .ref a_this_house_gates, .ref a_this_house_stones, .ref a_this_house_told, .ref a_this_house_letters, .ref a_this_house_mentions, .ref a_this_house_loads, .ref a_this_house_prices, .int v_this_house_narrow, .int v_this_house_names])), (a_this_house_told, .inr (8, [.int (3 : Int32), .int (40 : Int32), .ref a_this_house_told_cells, .int v_this_house_told_rows])), (a_this_house_told_cells, .inl (cI, 120, .inl v_this_house_told_cells))]) (fun s_13 => [(0, .ref a_this), (2, .int s_11.1), (3, .int s_13.1)]) (fun x_14 => [(a_this, .inr (10, [.ref a_this_house, .ref a_this_ahead, .ref a_this_row, .ref a_this_found])), (a_this_ahead, .inl (cI, 9, .inl x_14.2)), (a_this_house, .inr (0, [.ref a_this_house_merchants, .ref a_this_house_texts, .ref a_this_house_acts, .ref a_this_house_debts, .ref a_this_house_payments, .ref a_this_house_purses, .ref a_this_house_gates, .ref a_this_house_stones, .ref a_this_house_told, .ref a_this_house_letters, .ref a_this_house_mentions, .ref a_this_house_loads, .ref a_this_house_prices, .int v_this_house_narrow, .int v_this_house_names])), (a_this_house_told, .inr (8, [.int (3 : Int32), .int (40 : Int32), .ref a_this_house_told_cells, .int v_this_house_told_rows])), (a_this_house_told_cells, .inl (cI, 120, .inl v_this_house_told_cells))]) (fun x_14 => [(0, .ref a_this), (2, .int s_11.1)]) 152 hl_13 rfl rfl ?_ (fun s_13 o h hb_13 hr_13 hx_13 => ?_)
        · skip
          refine ii_iinc (fun x_21 => [(2, .int x_21), (0, .ref a_this)]) h 1 dX10_know_152 rfl kc1 (by decide) (fun _ => rfl) (fun x_21 h => ?_)
          refine ii_goto (tgt := 97) dX10_know_155 (by decide) ?_
          refine ii_lv [1, 0] rfl ?_
          cases h
          exact hb_11 (x_21, x_14.2) rfl
        · skip
          refine ii_iload_n 2 dX10_know_108 rfl ?_
          refine ii_aload_n 0 dX10_know_109 rfl ?_
          refine ii_get (C := RX10) (T := TX10) (N := 4) (ci := 10) izX10 0 rfl rfl 1 (by decide) kX10_9 rfl dX10_know_110 ?_
          refine ii_alen (v := (9 : Int32)) 1 0 rfl rfl rfl dX10_know_113 ?_
          refine ii_icmp_ge (tgt := 152) h dX10_know_114 (by decide) (fun h => ?_) (fun h => ?_)
          · skip
            refine ii_lv [0, 1] rfl ?_
            cases h
            exact hx_13 (s_13.1, s_13.2) (hr_13 _ rfl)
          · skip
            refine ii_aload_n 0 dX10_know_117 rfl ?_
            refine ii_get (C := RX10) (T := TX10) (N := 4) (ci := 10) izX10 0 rfl rfl 1 (by decide) kX10_9 rfl dX10_know_118 ?_
            refine ii_iload_n 2 dX10_know_121 rfl ?_
            refine ii_iald h 1 0 rfl rfl dX10_know_122 (fun t_15 h => ?_)
            refine ii_iload_n 1 dX10_know_123 rfl ?_
            refine ii_ishr dX10_know_124 ?_
            refine ii_iconst dX10_know_125 kc1 ?_
            refine ii_iand dX10_know_126 ?_
            refine ii_iconst dX10_know_127 kc1 ?_
            refine ii_jn h (fun j_16 => [(a_this, .inr (10, [.ref a_this_house, .ref a_this_ahead, .ref a_this_row, .ref a_this_found])), (a_this_ahead, .inl (cI, 9, .inl j_16)), (a_this_house, .inr (0, [.ref a_this_house_merchants, .ref a_this_house_texts, .ref a_this_house_acts, .ref a_this_house_debts, .ref a_this_house_payments, .ref a_this_house_purses, .ref a_this_house_gates, .ref a_this_house_stones, .ref a_this_house_told, .ref a_this_house_letters, .ref a_this_house_mentions, .ref a_this_house_loads, .ref a_this_house_prices, .int v_this_house_narrow, .int v_this_house_names])), (a_this_house_told, .inr (8, [.int (3 : Int32), .int (40 : Int32), .ref a_this_house_told_cells, .int v_this_house_told_rows])), (a_this_house_told_cells, .inl (cI, 120, .inl v_this_house_told_cells))]) (fun j_16 => [(0, .ref a_this), (2, .int s_11.1), (3, .int s_13.1)]) 146 (fun j_16 => []) (fun j_16 h => ?_) (fun j_16 h hjj_16 => ?_)
            · skip
              refine ii_iinc (fun x_20 => [(3, .int x_20), (0, .ref a_this), (2, .int s_11.1)]) h 2 dX10_know_146 rfl kc1 (by decide) (fun _ => rfl) (fun x_20 h => ?_)
              refine ii_goto (tgt := 108) dX10_know_149 (by decide) ?_
              refine ii_lv [1, 2, 0] rfl ?_
              cases h
              exact hb_13 (x_20, j_16) rfl
            · skip
              refine ii_icmp_ne (tgt := 146) h dX10_know_128 (by decide) (fun h => ?_) (fun h => ?_)
              · skip
                cases h
                exact hjj_16
              · skip
                refine ii_aload_n 0 dX10_know_131 rfl ?_
                refine ii_get (C := RX10) (T := TX10) (N := 4) (ci := 10) izX10 0 rfl rfl 1 (by decide) kX10_9 rfl dX10_know_132 ?_
                refine ii_iload_n 2 dX10_know_135 rfl ?_
                refine ii_dup2 dX10_know_136 rfl rfl ?_
                refine ii_iald h 1 0 rfl rfl dX10_know_137 (fun t_17 h => ?_)
                refine ii_aload_n 0 dX10_know_138 rfl ?_
                refine ii_get (C := RX10) (T := TX10) (N := 4) (ci := 10) izX10 0 rfl rfl 1 (by decide) kX10_9 rfl dX10_know_139 ?_
                refine ii_iload_n 1 dX10_know_142 rfl ?_
                refine ii_iald h 1 0 rfl rfl dX10_know_143 (fun t_18 h => ?_)
                refine ii_ior dX10_know_144 ?_
                refine ii_iast (fun g_19 => [(a_this, .inr (10, [.ref a_this_house, .ref a_this_ahead, .ref a_this_row, .ref a_this_found])), (a_this_ahead, .inl (cI, 9, .inl g_19)), (a_this_house, .inr (0, [.ref a_this_house_merchants, .ref a_this_house_texts, .ref a_this_house_acts, .ref a_this_house_debts, .ref a_this_house_payments, .ref a_this_house_purses, .ref a_this_house_gates, .ref a_this_house_stones, .ref a_this_house_told, .ref a_this_house_letters, .ref a_this_house_mentions, .ref a_this_house_loads, .ref a_this_house_prices, .int v_this_house_narrow, .int v_this_house_names])), (a_this_house_told, .inr (8, [.int (3 : Int32), .int (40 : Int32), .ref a_this_house_told_cells, .int v_this_house_told_rows])), (a_this_house_told_cells, .inl (cI, 120, .inl v_this_house_told_cells))]) h 1 0 rfl rfl dX10_know_145 (fun _ => rfl) (fun g_19 h => ?_)
                cases h
                exact hjj_16
  · skip
    refine ii_iload_n 2 dX10_know_10 rfl ?_
    refine ii_aload_n 0 dX10_know_11 rfl ?_
    refine ii_get (C := RX10) (T := TX10) (N := 4) (ci := 10) izX10 0 rfl rfl 0 (by decide) kX10_21 rfl dX10_know_12 ?_
    refine ii_get (C := RX0) (T := TX0) (N := 15) (ci := 0) izX0 2 rfl rfl 8 (by decide) kX10_31 rfl dX10_know_15 ?_
    refine ii_get (C := RX8) (T := TX8) (N := 4) (ci := 8) izX8 3 rfl rfl 3 (by decide) kX10_37 rfl dX10_know_18 ?_
    refine ii_icmp_ge (tgt := 95) h dX10_know_21 (by decide) (fun h => ?_) (fun h => ?_)
    · skip
      refine ii_lv [0] rfl ?_
      cases h
      exact hx_2 (s_2.1, s_2.2) (hr_2 _ rfl)
    · skip
      refine ii_aload_n 0 dX10_know_24 rfl ?_
      refine ii_get (C := RX10) (T := TX10) (N := 4) (ci := 10) izX10 0 rfl rfl 0 (by decide) kX10_21 rfl dX10_know_25 ?_
      refine ii_get (C := RX0) (T := TX0) (N := 15) (ci := 0) izX0 2 rfl rfl 8 (by decide) kX10_31 rfl dX10_know_28 ?_
      refine ii_iload_n 2 dX10_know_31 rfl ?_
      refine ii_iconst dX10_know_32 kc1 ?_
      obtain ⟨c_4, hc_4, h⟩ := bnd h
      refine ii_callVi (As := [.int s_2.1, .int (1 : Int32)]) (ws' := [(a_this, .inr (10, [.ref a_this_house, .ref a_this_ahead, .ref a_this_row, .ref a_this_found])), (a_this_ahead, .inl (cI, 9, .inl s_2.2)), (a_this_house, .inr (0, [.ref a_this_house_merchants, .ref a_this_house_texts, .ref a_this_house_acts, .ref a_this_house_debts, .ref a_this_house_payments, .ref a_this_house_purses, .ref a_this_house_gates, .ref a_this_house_stones, .ref a_this_house_told, .ref a_this_house_letters, .ref a_this_house_mentions, .ref a_this_house_loads, .ref a_this_house_prices, .int v_this_house_narrow, .int v_this_house_names])), (a_this_house_told, .inr (8, [.int (3 : Int32), .int (40 : Int32), .ref a_this_house_told_cells, .int v_this_house_told_rows])), (a_this_house_told_cells, .inl (cI, 120, .inl v_this_house_told_cells))]) (st := []) (c_X8_get l D cI cJ cZ cH a_this_house_told a_this_house_told_cells 120 v_this_house_told_cells (40 : Int32) v_this_house_told_rows (3 : Int32) s_2.1 (1 : Int32) hc_4) gzX10_43 rfl rfl rfl eV_X8_get ⟨Nat.le_of_ble_eq_true rfl, Nat.le_of_ble_eq_true rfl⟩ rfl 3 rfl rfl [3, 4] rfl rfl rfl rfl rfl (Nat.le_of_ble_eq_true rfl) (Nat.le_refl _) (Nat.le_refl _) rfl dX10_know_33 ?_
      refine ii_istore_n (lv' := [(3, .int c_4), (0, .ref a_this), (1, .int p0), (2, .int s_2.1)]) dX10_know_36 rfl (by decide) rfl ?_
      refine ii_aload_n 1 dX10_know_37 rfl ?_
      refine ii_get (C := RX10) (T := TX10) (N := 4) (ci := 10) izX10 0 rfl rfl 0 (by decide) kX10_21 rfl dX10_know_38 ?_
      refine ii_get (C := RX0) (T := TX0) (N := 15) (ci := 0) izX0 2 rfl rfl 8 (by decide) kX10_31 rfl dX10_know_41 ?_
      refine ii_iload_n 3 dX10_know_44 rfl ?_
      refine ii_iconst dX10_know_45 kc2 ?_
      obtain ⟨c_5, hc_5, h⟩ := bnd h
      refine ii_callVi (As := [.int s_2.1, .int (2 : Int32)]) (ws' := [(a_this, .inr (10, [.ref a_this_house, .ref a_this_ahead, .ref a_this_row, .ref a_this_found])), (a_this_ahead, .inl (cI, 9, .inl s_2.2)), (a_this_house, .inr (0, [.ref a_this_house_merchants, .ref a_this_house_texts, .ref a_this_house_acts, .ref a_this_house_debts, .ref a_this_house_payments, .ref a_this_house_purses, .ref a_this_house_gates, .ref a_this_house_stones, .ref a_this_house_told, .ref a_this_house_letters, .ref a_this_house_mentions, .ref a_this_house_loads, .ref a_this_house_prices, .int v_this_house_narrow, .int v_this_house_names])), (a_this_house_told, .inr (8, [.int (3 : Int32), .int (40 : Int32), .ref a_this_house_told_cells, .int v_this_house_told_rows])), (a_this_house_told_cells, .inl (cI, 120, .inl v_this_house_told_cells))]) (st := []) (c_X8_get l D cI cJ cZ cH a_this_house_told a_this_house_told_cells 120 v_this_house_told_cells (40 : Int32) v_this_house_told_rows (3 : Int32) s_2.1 (2 : Int32) hc_5) gzX10_43 rfl rfl rfl eV_X8_get ⟨Nat.le_of_ble_eq_true rfl, Nat.le_of_ble_eq_true rfl⟩ rfl 3 rfl rfl [3, 4] rfl rfl rfl rfl rfl (Nat.le_of_ble_eq_true rfl) (Nat.le_refl _) (Nat.le_refl _) rfl dX10_know_46 ?_
      refine ii_iload_n 2 dX10_know_49 rfl ?_
      refine ii_jn h (fun j_6 => [(a_this, .inr (10, [.ref a_this_house, .ref a_this_ahead, .ref a_this_row, .ref a_this_found])), (a_this_ahead, .inl (cI, 9, .inl j_6)), (a_this_house, .inr (0, [.ref a_this_house_merchants, .ref a_this_house_texts, .ref a_this_house_acts, .ref a_this_house_debts, .ref a_this_house_payments, .ref a_this_house_purses, .ref a_this_house_gates, .ref a_this_house_stones, .ref a_this_house_told, .ref a_this_house_letters, .ref a_this_house_mentions, .ref a_this_house_loads, .ref a_this_house_prices, .int v_this_house_narrow, .int v_this_house_names])), (a_this_house_told, .inr (8, [.int (3 : Int32), .int (40 : Int32), .ref a_this_house_told_cells, .int v_this_house_told_rows])), (a_this_house_told_cells, .inl (cI, 120, .inl v_this_house_told_cells))]) (fun j_6 => [(0, .ref a_this), (1, .int p0), (2, .int s_2.1)]) 89 (fun j_6 => []) (fun j_6 h => ?_) (fun j_6 h hjj_6 => ?_)
      · skip
        refine ii_iinc (fun x_10 => [(2, .int x_10), (0, .ref a_this), (1, .int p0)]) h 2 dX10_know_89 rfl kc1 (by decide) (fun _ => rfl) (fun x_10 h => ?_)
        refine ii_goto (tgt := 10) dX10_know_92 (by decide) ?_
        refine ii_lv [1, 2, 0] rfl ?_
        cases h
        exact hb_2 (x_10, j_6) rfl
      · skip
        refine ii_icmp_gt (tgt := 89) h dX10_know_50 (by decide) (fun h => ?_) (fun h => ?_)
        · skip
          refine ii_lv [1, 2, 3] rfl ?_
          cases h
          exact hjj_6
        · skip
          refine ii_iload_n 0 dX10_know_53 rfl ?_
          refine ii_if_lt (tgt := 89) h dX10_know_54 (by decide) (fun h => ?_) (fun h => ?_)
          · skip
            refine ii_lv [1, 2, 3] rfl ?_
            cases h
            exact hjj_6
          · skip
            refine ii_iload_n 0 dX10_know_57 rfl ?_
            refine ii_aload_n 1 dX10_know_58 rfl ?_
            refine ii_get (C := RX10) (T := TX10) (N := 4) (ci := 10) izX10 0 rfl rfl 1 (by decide) kX10_9 rfl dX10_know_59 ?_
            refine ii_alen (v := (9 : Int32)) 1 0 rfl rfl rfl dX10_know_62 ?_
            refine ii_icmp_ge (tgt := 89) h dX10_know_63 (by decide) (fun h => ?_) (fun h => ?_)
            · skip
              refine ii_lv [1, 2, 3] rfl ?_
              cases h
              exact hjj_6
            · skip
              refine ii_aload_n 1 dX10_know_66 rfl ?_
              refine ii_get (C := RX10) (T := TX10) (N := 4) (ci := 10) izX10 0 rfl rfl 1 (by decide) kX10_9 rfl dX10_know_67 ?_
              refine ii_iload_n 0 dX10_know_70 rfl ?_
              refine ii_dup2 dX10_know_71 rfl rfl ?_
              refine ii_iald h 1 0 rfl rfl dX10_know_72 (fun t_7 h => ?_)
              refine ii_iconst dX10_know_73 kc1 ?_
              refine ii_aload_n 1 dX10_know_74 rfl ?_
              refine ii_get (C := RX10) (T := TX10) (N := 4) (ci := 10) izX10 0 rfl rfl 0 (by decide) kX10_21 rfl dX10_know_75 ?_
              refine ii_get (C := RX0) (T := TX0) (N := 15) (ci := 0) izX0 2 rfl rfl 8 (by decide) kX10_31 rfl dX10_know_78 ?_
              refine ii_iload_n 3 dX10_know_81 rfl ?_
              refine ii_iconst dX10_know_82 kc0 ?_
              obtain ⟨c_8, hc_8, h⟩ := bnd h
              refine ii_callVi (As := [.int s_2.1, .int (0 : Int32)]) (ws' := [(a_this, .inr (10, [.ref a_this_house, .ref a_this_ahead, .ref a_this_row, .ref a_this_found])), (a_this_ahead, .inl (cI, 9, .inl s_2.2)), (a_this_house, .inr (0, [.ref a_this_house_merchants, .ref a_this_house_texts, .ref a_this_house_acts, .ref a_this_house_debts, .ref a_this_house_payments, .ref a_this_house_purses, .ref a_this_house_gates, .ref a_this_house_stones, .ref a_this_house_told, .ref a_this_house_letters, .ref a_this_house_mentions, .ref a_this_house_loads, .ref a_this_house_prices, .int v_this_house_narrow, .int v_this_house_names])), (a_this_house_told, .inr (8, [.int (3 : Int32), .int (40 : Int32), .ref a_this_house_told_cells, .int v_this_house_told_rows])), (a_this_house_told_cells, .inl (cI, 120, .inl v_this_house_told_cells))]) (st := [.int (1 : Int32), .int t_7, .int c_4, .ref a_this_ahead]) (c_X8_get l D cI cJ cZ cH a_this_house_told a_this_house_told_cells 120 v_this_house_told_cells (40 : Int32) v_this_house_told_rows (3 : Int32) s_2.1 (0 : Int32) hc_8) gzX10_43 rfl rfl rfl eV_X8_get ⟨Nat.le_of_ble_eq_true rfl, Nat.le_of_ble_eq_true rfl⟩ rfl 3 rfl rfl [3, 4] rfl rfl rfl rfl rfl (Nat.le_of_ble_eq_true rfl) (Nat.le_refl _) (Nat.le_refl _) rfl dX10_know_83 ?_
              refine ii_ishl dX10_know_86 ?_
              refine ii_ior dX10_know_87 ?_
              refine ii_iast (fun g_9 => [(a_this, .inr (10, [.ref a_this_house, .ref a_this_ahead, .ref a_this_row, .ref a_this_found])), (a_this_ahead, .inl (cI, 9, .inl g_9)), (a_this_house, .inr (0, [.ref a_this_house_merchants, .ref a_this_house_texts, .ref a_this_house_acts, .ref a_this_house_debts, .ref a_this_house_payments, .ref a_this_house_purses, .ref a_this_house_gates, .ref a_this_house_stones, .ref a_this_house_told, .ref a_this_house_letters, .ref a_this_house_mentions, .ref a_this_house_loads, .ref a_this_house_prices, .int v_this_house_narrow, .int v_this_house_names])), (a_this_house_told, .inr (8, [.int (3 : Int32), .int (40 : Int32), .ref a_this_house_told_cells, .int v_this_house_told_rows])), (a_this_house_told_cells, .inl (cI, 120, .inl v_this_house_told_cells))]) h 1 0 rfl rfl dX10_know_88 (fun _ => rfl) (fun g_9 h => ?_)
              refine ii_lv [1, 2, 3] rfl ?_
              cases h
              exact hjj_6
set_option maxHeartbeats 4000000 in
set_option maxRecDepth 100000 in
theorem c_X10_isNext (l : Launch) (D : va_G) (cI cJ cZ cH : ClassId) (a_this a_this_ahead a_this_found a_this_house a_this_row : Nat) (v_this_ahead : Nat → Int32) (p0 : Int32) (p1 : Int32) {res : Int32} (h : F_X10_isNext v_this_ahead p0 p1 = some res) : CTi l yX10_isNext wzX10_isNext { frames := 0, cells := 0, slots := 0, locals := 0 } D [(cI, .int), (cJ, .long), (cZ, .boolean), (cH, .object "TinHouse$House")] [.ref a_this, .int p0, .int p1] [(a_this, .inr (10, [.ref a_this_house, .ref a_this_ahead, .ref a_this_row, .ref a_this_found])), (a_this_ahead, .inl (cI, 9, .inl v_this_ahead))] res [(a_this, .inr (10, [.ref a_this_house, .ref a_this_ahead, .ref a_this_row, .ref a_this_found])), (a_this_ahead, .inl (cI, 9, .inl v_this_ahead))] := by
  unfold F_X10_isNext at h
  refine ii_metZ (own := RX10) (lv0 := [(0, .ref a_this), (1, .int p0), (2, .int p1)]) (by decide) rfl rfl rfl (Nat.le_of_ble_eq_true rfl) (fun {p e s m args below meth c A Q} hQ => ?_)
  refine ii_iload_n 1 dX10_isNext_0 rfl ?_
  refine ii_jn h (fun j_1 => [(a_this, .inr (10, [.ref a_this_house, .ref a_this_ahead, .ref a_this_row, .ref a_this_found])), (a_this_ahead, .inl (cI, 9, .inl v_this_ahead))]) (fun j_1 => []) 31 (fun j_1 => [.int j_1]) (fun j_1 h => ?_) (fun j_1 h hjj_1 => ?_)
  · skip
    refine ii_topB h (fun t_3 hz_4 h => ?_)
    cases h
    exact hQ _ _ dX10_isNext_31 hz_4
  · skip
    refine ii_if_lt (tgt := 30) h dX10_isNext_1 (by decide) (fun h => ?_) (fun h => ?_)
    · skip
      refine ii_iconst dX10_isNext_30 kc0 ?_
      refine ii_lv [] rfl ?_
      cases h
      exact hjj_1
    · skip
      refine ii_iload_n 1 dX10_isNext_4 rfl ?_
      refine ii_aload_n 0 dX10_isNext_5 rfl ?_
      refine ii_get (C := RX10) (T := TX10) (N := 4) (ci := 10) izX10 0 rfl rfl 1 (by decide) kX10_9 rfl dX10_isNext_6 ?_
      refine ii_alen (v := (9 : Int32)) 1 0 rfl rfl rfl dX10_isNext_9 ?_
      refine ii_icmp_ge (tgt := 30) h dX10_isNext_10 (by decide) (fun h => ?_) (fun h => ?_)
      · skip
        refine ii_iconst dX10_isNext_30 kc0 ?_
        refine ii_lv [] rfl ?_
        cases h
        exact hjj_1
      · skip
        refine ii_aload_n 0 dX10_isNext_13 rfl ?_
        refine ii_get (C := RX10) (T := TX10) (N := 4) (ci := 10) izX10 0 rfl rfl 1 (by decide) kX10_9 rfl dX10_isNext_14 ?_
        refine ii_iload_n 1 dX10_isNext_17 rfl ?_
        refine ii_iald h 1 0 rfl rfl dX10_isNext_18 (fun t_2 h => ?_)
        refine ii_iload_n 2 dX10_isNext_19 rfl ?_
        refine ii_iconst dX10_isNext_20 kcm1 ?_
        refine ii_ixor dX10_isNext_21 ?_
        refine ii_iand dX10_isNext_22 ?_
        refine ii_if_ne (tgt := 30) h dX10_isNext_23 (by decide) (fun h => ?_) (fun h => ?_)
        · skip
          refine ii_iconst dX10_isNext_30 kc0 ?_
          refine ii_lv [] rfl ?_
          cases h
          exact hjj_1
        · skip
          refine ii_iconst dX10_isNext_26 kc1 ?_
          refine ii_goto (tgt := 31) dX10_isNext_27 (by decide) ?_
          refine ii_lv [] rfl ?_
          cases h
          exact hjj_1
set_option maxHeartbeats 4000000 in
set_option maxRecDepth 100000 in
theorem c_X10_countOrders (l : Launch) (D : va_G) (cI cJ cZ cH : ClassId) (a_this a_this_ahead a_this_found a_this_house a_this_house_acts a_this_house_debts a_this_house_gates a_this_house_letters a_this_house_loads a_this_house_mentions a_this_house_merchants a_this_house_payments a_this_house_prices a_this_house_purses a_this_house_stones a_this_house_texts a_this_house_told a_this_row : Nat) (v_this_ahead : Nat → Int32) (v_this_found : Nat → Int32) (v_this_house_names : Int32) (v_this_house_narrow : Int32) {res : Int32 × (Nat → Int32)} (h : F_X10_countOrders v_this_ahead v_this_found v_this_house_names = some res) : CTi l yX10_countOrders wzX10_countOrders { frames := 1, cells := 0, slots := 0, locals := 24 } D [(cI, .int), (cJ, .long), (cZ, .boolean), (cH, .object "TinHouse$House")] [.ref a_this] [(a_this, .inr (10, [.ref a_this_house, .ref a_this_ahead, .ref a_this_row, .ref a_this_found])), (a_this_ahead, .inl (cI, 9, .inl v_this_ahead)), (a_this_found, .inl (cI, 512, .inl v_this_found)), (a_this_house, .inr (0, [.ref a_this_house_merchants, .ref a_this_house_texts, .ref a_this_house_acts, .ref a_this_house_debts, .ref a_this_house_payments, .ref a_this_house_purses, .ref a_this_house_gates, .ref a_this_house_stones, .ref a_this_house_told, .ref a_this_house_letters, .ref a_this_house_mentions, .ref a_this_house_loads, .ref a_this_house_prices, .int v_this_house_narrow, .int v_this_house_names]))] res.1 [(a_this, .inr (10, [.ref a_this_house, .ref a_this_ahead, .ref a_this_row, .ref a_this_found])), (a_this_ahead, .inl (cI, 9, .inl v_this_ahead)), (a_this_found, .inl (cI, 512, .inl res.2)), (a_this_house, .inr (0, [.ref a_this_house_merchants, .ref a_this_house_texts, .ref a_this_house_acts, .ref a_this_house_debts, .ref a_this_house_payments, .ref a_this_house_purses, .ref a_this_house_gates, .ref a_this_house_stones, .ref a_this_house_told, .ref a_this_house_letters, .ref a_this_house_mentions, .ref a_this_house_loads, .ref a_this_house_prices, .int v_this_house_narrow, .int v_this_house_names]))] := by
  unfold F_X10_countOrders at h
  refine ii_metI (own := RX10) (lv0 := [(0, .ref a_this)]) (by decide) rfl rfl rfl (Nat.le_of_ble_eq_true rfl) (fun {p e s m args below meth c A Q} hQ => ?_)
  refine ii_iconst dX10_countOrders_0 kc1 ?_
  refine ii_aload_n 0 dX10_countOrders_1 rfl ?_
  refine ii_get (C := RX10) (T := TX10) (N := 4) (ci := 10) izX10 0 rfl rfl 0 (by decide) kX10_21 rfl dX10_countOrders_2 ?_
  refine ii_get (C := RX0) (T := TX0) (N := 15) (ci := 0) izX0 3 rfl rfl 14 (by decide) kX10_47 rfl dX10_countOrders_5 ?_
  refine ii_ishl dX10_countOrders_8 ?_
  refine ii_aload_n 0 dX10_countOrders_9 rfl ?_
  refine ii_get (C := RX10) (T := TX10) (N := 4) (ci := 10) izX10 0 rfl rfl 3 (by decide) kX10_18 rfl dX10_countOrders_10 ?_
  refine ii_alen (v := (512 : Int32)) 2 0 rfl rfl rfl dX10_countOrders_13 ?_
  refine ii_mmin mX10_50 ms_min mi_Math mc_min (Nat.le_of_ble_eq_true rfl) (Nat.le_of_ble_eq_true rfl) (Nat.le_refl _) (Nat.le_refl _) dX10_countOrders_14 ?_
  refine ii_topI h (fun x_1 h => ?_)
  refine ii_istore_n (lv' := [(1, .int x_1), (0, .ref a_this)]) dX10_countOrders_17 rfl (by decide) rfl ?_
  refine ii_iconst dX10_countOrders_18 kc0 ?_
  refine ii_istore_n (lv' := [(2, .int (0 : Int32)), (1, .int x_1), (0, .ref a_this)]) dX10_countOrders_19 rfl (by decide) rfl ?_
  refine ii_lv [2, 1, 0] rfl ?_
  obtain ⟨x_3, hl_2, h⟩ := bnd h
  refine ii_loopX (fun s_2 => [(a_this, .inr (10, [.ref a_this_house, .ref a_this_ahead, .ref a_this_row, .ref a_this_found])), (a_this_ahead, .inl (cI, 9, .inl v_this_ahead)), (a_this_found, .inl (cI, 512, .inl s_2.2)), (a_this_house, .inr (0, [.ref a_this_house_merchants, .ref a_this_house_texts, .ref a_this_house_acts, .ref a_this_house_debts, .ref a_this_house_payments, .ref a_this_house_purses, .ref a_this_house_gates, .ref a_this_house_stones, .ref a_this_house_told, .ref a_this_house_letters, .ref a_this_house_mentions, .ref a_this_house_loads, .ref a_this_house_prices, .int v_this_house_narrow, .int v_this_house_names]))]) (fun s_2 => [(0, .ref a_this), (1, .int x_1), (2, .int s_2.1)]) (fun x_3 => [(a_this, .inr (10, [.ref a_this_house, .ref a_this_ahead, .ref a_this_row, .ref a_this_found])), (a_this_ahead, .inl (cI, 9, .inl v_this_ahead)), (a_this_found, .inl (cI, 512, .inl x_3.2)), (a_this_house, .inr (0, [.ref a_this_house_merchants, .ref a_this_house_texts, .ref a_this_house_acts, .ref a_this_house_debts, .ref a_this_house_payments, .ref a_this_house_purses, .ref a_this_house_gates, .ref a_this_house_stones, .ref a_this_house_told, .ref a_this_house_letters, .ref a_this_house_mentions, .ref a_this_house_loads, .ref a_this_house_prices, .int v_this_house_narrow, .int v_this_house_names]))]) (fun x_3 => [(0, .ref a_this), (1, .int x_1)]) 121 hl_2 rfl rfl ?_ (fun s_2 o h hb_2 hr_2 hx_2 => ?_)
  · skip
    refine ii_iload_n 1 dX10_countOrders_121 rfl ?_
    refine ii_jn h (fun j_15 => [(a_this, .inr (10, [.ref a_this_house, .ref a_this_ahead, .ref a_this_row, .ref a_this_found])), (a_this_ahead, .inl (cI, 9, .inl v_this_ahead)), (a_this_found, .inl (cI, 512, .inl x_3.2)), (a_this_house, .inr (0, [.ref a_this_house_merchants, .ref a_this_house_texts, .ref a_this_house_acts, .ref a_this_house_debts, .ref a_this_house_payments, .ref a_this_house_purses, .ref a_this_house_gates, .ref a_this_house_stones, .ref a_this_house_told, .ref a_this_house_letters, .ref a_this_house_mentions, .ref a_this_house_loads, .ref a_this_house_prices, .int v_this_house_narrow, .int v_this_house_names]))]) (fun j_15 => []) 146 (fun j_15 => [.int j_15]) (fun j_15 h => ?_) (fun j_15 h hjj_15 => ?_)
    · skip
      cases h
      exact hQ _ _ dX10_countOrders_146
    · skip
      refine ii_if_le (tgt := 145) h dX10_countOrders_122 (by decide) (fun h => ?_) (fun h => ?_)
      · skip
        refine ii_iconst dX10_countOrders_145 kc0 ?_
        refine ii_lv [] rfl ?_
        cases h
        exact hjj_15
      · skip
        refine ii_iload_n 1 dX10_countOrders_125 rfl ?_
        refine ii_aload_n 0 dX10_countOrders_126 rfl ?_
        refine ii_get (C := RX10) (T := TX10) (N := 4) (ci := 10) izX10 0 rfl rfl 3 (by decide) kX10_18 rfl dX10_countOrders_127 ?_
        refine ii_alen (v := (512 : Int32)) 2 0 rfl rfl rfl dX10_countOrders_130 ?_
        refine ii_icmp_gt (tgt := 145) h dX10_countOrders_131 (by decide) (fun h => ?_) (fun h => ?_)
        · skip
          refine ii_iconst dX10_countOrders_145 kc0 ?_
          refine ii_lv [] rfl ?_
          cases h
          exact hjj_15
        · skip
          refine ii_aload_n 0 dX10_countOrders_134 rfl ?_
          refine ii_get (C := RX10) (T := TX10) (N := 4) (ci := 10) izX10 0 rfl rfl 3 (by decide) kX10_18 rfl dX10_countOrders_135 ?_
          refine ii_iload_n 1 dX10_countOrders_138 rfl ?_
          refine ii_iconst dX10_countOrders_139 kc1 ?_
          refine ii_isub dX10_countOrders_140 ?_
          refine ii_iald h 2 0 rfl rfl dX10_countOrders_141 (fun t_16 h => ?_)
          refine ii_goto (tgt := 146) dX10_countOrders_142 (by decide) ?_
          refine ii_lv [] rfl ?_
          cases h
          exact hjj_15
  · skip
    refine ii_iload_n 2 dX10_countOrders_20 rfl ?_
    refine ii_iload_n 1 dX10_countOrders_21 rfl ?_
    refine ii_icmp_ge (tgt := 121) h dX10_countOrders_22 (by decide) (fun h => ?_) (fun h => ?_)
    · skip
      refine ii_lv [0, 1] rfl ?_
      cases h
      exact hx_2 (s_2.1, s_2.2) (hr_2 _ rfl)
    · skip
      refine ii_iload_n 2 dX10_countOrders_25 rfl ?_
      refine ii_jn h (fun j_4 => [(a_this, .inr (10, [.ref a_this_house, .ref a_this_ahead, .ref a_this_row, .ref a_this_found])), (a_this_ahead, .inl (cI, 9, .inl v_this_ahead)), (a_this_found, .inl (cI, 512, .inl s_2.2)), (a_this_house, .inr (0, [.ref a_this_house_merchants, .ref a_this_house_texts, .ref a_this_house_acts, .ref a_this_house_debts, .ref a_this_house_payments, .ref a_this_house_purses, .ref a_this_house_gates, .ref a_this_house_stones, .ref a_this_house_told, .ref a_this_house_letters, .ref a_this_house_mentions, .ref a_this_house_loads, .ref a_this_house_prices, .int v_this_house_narrow, .int v_this_house_names]))]) (fun j_4 => [(0, .ref a_this), (1, .int x_1), (2, .int s_2.1)]) 34 (fun j_4 => [.int j_4]) (fun j_4 h => ?_) (fun j_4 h hjj_4 => ?_)
      · skip
        refine ii_istore_n (lv' := [(3, .int j_4), (0, .ref a_this), (1, .int x_1), (2, .int s_2.1)]) dX10_countOrders_34 rfl (by decide) rfl ?_
        refine ii_iconst dX10_countOrders_35 kc0 ?_
        refine ii_istore (lv' := [(4, .int (0 : Int32)), (3, .int j_4), (0, .ref a_this), (1, .int x_1), (2, .int s_2.1)]) dX10_countOrders_36 (by decide) rfl ?_
        refine ii_lv [2, 3, 4, 1, 0] rfl ?_
        obtain ⟨x_6, hl_5, h⟩ := bnd h
        refine ii_loopX (fun s_5 => [(a_this, .inr (10, [.ref a_this_house, .ref a_this_ahead, .ref a_this_row, .ref a_this_found])), (a_this_ahead, .inl (cI, 9, .inl v_this_ahead)), (a_this_found, .inl (cI, 512, .inl s_2.2)), (a_this_house, .inr (0, [.ref a_this_house_merchants, .ref a_this_house_texts, .ref a_this_house_acts, .ref a_this_house_debts, .ref a_this_house_payments, .ref a_this_house_purses, .ref a_this_house_gates, .ref a_this_house_stones, .ref a_this_house_told, .ref a_this_house_letters, .ref a_this_house_mentions, .ref a_this_house_loads, .ref a_this_house_prices, .int v_this_house_narrow, .int v_this_house_names]))]) (fun s_5 => [(0, .ref a_this), (1, .int x_1), (2, .int s_2.1), (3, .int s_5.1), (4, .int s_5.2)]) (fun x_6 => [(a_this, .inr (10, [.ref a_this_house, .ref a_this_ahead, .ref a_this_row, .ref a_this_found])), (a_this_ahead, .inl (cI, 9, .inl v_this_ahead)), (a_this_found, .inl (cI, 512, .inl s_2.2)), (a_this_house, .inr (0, [.ref a_this_house_merchants, .ref a_this_house_texts, .ref a_this_house_acts, .ref a_this_house_debts, .ref a_this_house_payments, .ref a_this_house_purses, .ref a_this_house_gates, .ref a_this_house_stones, .ref a_this_house_told, .ref a_this_house_letters, .ref a_this_house_mentions, .ref a_this_house_loads, .ref a_this_house_prices, .int v_this_house_narrow, .int v_this_house_names]))]) (fun x_6 => [(0, .ref a_this), (1, .int x_1), (2, .int s_2.1), (3, .int x_6.1)]) 108 hl_5 rfl rfl ?_ (fun s_5 o h hb_5 hr_5 hx_5 => ?_)
        · skip
          refine ii_aload_n 0 dX10_countOrders_108 rfl ?_
          refine ii_get (C := RX10) (T := TX10) (N := 4) (ci := 10) izX10 0 rfl rfl 3 (by decide) kX10_18 rfl dX10_countOrders_109 ?_
          refine ii_iload_n 2 dX10_countOrders_112 rfl ?_
          refine ii_iload_n 3 dX10_countOrders_113 rfl ?_
          refine ii_iast (fun g_13 => [(a_this, .inr (10, [.ref a_this_house, .ref a_this_ahead, .ref a_this_row, .ref a_this_found])), (a_this_ahead, .inl (cI, 9, .inl v_this_ahead)), (a_this_found, .inl (cI, 512, .inl g_13)), (a_this_house, .inr (0, [.ref a_this_house_merchants, .ref a_this_house_texts, .ref a_this_house_acts, .ref a_this_house_debts, .ref a_this_house_payments, .ref a_this_house_purses, .ref a_this_house_gates, .ref a_this_house_stones, .ref a_this_house_told, .ref a_this_house_letters, .ref a_this_house_mentions, .ref a_this_house_loads, .ref a_this_house_prices, .int v_this_house_narrow, .int v_this_house_names]))]) h 2 0 rfl rfl dX10_countOrders_114 (fun _ => rfl) (fun g_13 h => ?_)
          refine ii_iinc (fun x_14 => [(2, .int x_14), (0, .ref a_this), (1, .int x_1), (3, .int x_6.1)]) h 2 dX10_countOrders_115 rfl kc1 (by decide) (fun _ => rfl) (fun x_14 h => ?_)
          refine ii_goto (tgt := 20) dX10_countOrders_118 (by decide) ?_
          refine ii_lv [1, 2, 0] rfl ?_
          cases h
          exact hb_2 (x_14, g_13) rfl
        · skip
          refine ii_iload 4 dX10_countOrders_38 rfl ?_
          refine ii_aload_n 0 dX10_countOrders_40 rfl ?_
          refine ii_get (C := RX10) (T := TX10) (N := 4) (ci := 10) izX10 0 rfl rfl 0 (by decide) kX10_21 rfl dX10_countOrders_41 ?_
          refine ii_get (C := RX0) (T := TX0) (N := 15) (ci := 0) izX0 3 rfl rfl 14 (by decide) kX10_47 rfl dX10_countOrders_44 ?_
          refine ii_icmp_ge (tgt := 108) h dX10_countOrders_47 (by decide) (fun h => ?_) (fun h => ?_)
          · skip
            refine ii_lv [0, 1, 2, 3] rfl ?_
            cases h
            exact hx_5 (s_5.1, s_5.2) (hr_5 _ rfl)
          · skip
            refine ii_iload_n 2 dX10_countOrders_50 rfl ?_
            refine ii_iconst dX10_countOrders_51 kc1 ?_
            refine ii_iload 4 dX10_countOrders_52 rfl ?_
            refine ii_ishl dX10_countOrders_54 ?_
            refine ii_iconst dX10_countOrders_55 kcm1 ?_
            refine ii_ixor dX10_countOrders_56 ?_
            refine ii_iand dX10_countOrders_57 ?_
            refine ii_topI h (fun x_7 h => ?_)
            refine ii_istore (lv' := [(5, .int x_7), (0, .ref a_this), (1, .int x_1), (2, .int s_2.1), (3, .int s_5.1), (4, .int s_5.2)]) dX10_countOrders_58 (by decide) rfl ?_
            refine ii_iload 0 dX10_countOrders_60 rfl ?_
            refine ii_iload_n 3 dX10_countOrders_62 rfl ?_
            refine ii_jn h (fun j_8 => [(a_this, .inr (10, [.ref a_this_house, .ref a_this_ahead, .ref a_this_row, .ref a_this_found])), (a_this_ahead, .inl (cI, 9, .inl v_this_ahead)), (a_this_found, .inl (cI, 512, .inl s_2.2)), (a_this_house, .inr (0, [.ref a_this_house_merchants, .ref a_this_house_texts, .ref a_this_house_acts, .ref a_this_house_debts, .ref a_this_house_payments, .ref a_this_house_purses, .ref a_this_house_gates, .ref a_this_house_stones, .ref a_this_house_told, .ref a_this_house_letters, .ref a_this_house_mentions, .ref a_this_house_loads, .ref a_this_house_prices, .int v_this_house_narrow, .int v_this_house_names]))]) (fun j_8 => [(0, .ref a_this), (1, .int x_1), (2, .int s_2.1), (3, .int j_8), (4, .int s_5.2)]) 102 (fun j_8 => []) (fun j_8 h => ?_) (fun j_8 h hjj_8 => ?_)
            · skip
              refine ii_iinc (fun x_12 => [(4, .int x_12), (0, .ref a_this), (1, .int x_1), (2, .int s_2.1), (3, .int j_8)]) h 4 dX10_countOrders_102 rfl kc1 (by decide) (fun _ => rfl) (fun x_12 h => ?_)
              refine ii_goto (tgt := 38) dX10_countOrders_105 (by decide) ?_
              refine ii_lv [1, 2, 3, 4, 0] rfl ?_
              cases h
              exact hb_5 (j_8, x_12) rfl
            · skip
              refine ii_icmp_eq (tgt := 102) h dX10_countOrders_63 (by decide) (fun h => ?_) (fun h => ?_)
              · skip
                refine ii_lv [1, 2, 3, 4, 5] rfl ?_
                cases h
                exact hjj_8
              · skip
                refine ii_iload 0 dX10_countOrders_66 rfl ?_
                refine ii_if_lt (tgt := 102) h dX10_countOrders_68 (by decide) (fun h => ?_) (fun h => ?_)
                · skip
                  refine ii_lv [1, 2, 3, 4, 5] rfl ?_
                  cases h
                  exact hjj_8
                · skip
                  refine ii_iload 0 dX10_countOrders_71 rfl ?_
                  refine ii_aload_n 1 dX10_countOrders_73 rfl ?_
                  refine ii_get (C := RX10) (T := TX10) (N := 4) (ci := 10) izX10 0 rfl rfl 3 (by decide) kX10_18 rfl dX10_countOrders_74 ?_
                  refine ii_alen (v := (512 : Int32)) 2 0 rfl rfl rfl dX10_countOrders_77 ?_
                  refine ii_icmp_ge (tgt := 102) h dX10_countOrders_78 (by decide) (fun h => ?_) (fun h => ?_)
                  · skip
                    refine ii_lv [1, 2, 3, 4, 5] rfl ?_
                    cases h
                    exact hjj_8
                  · skip
                    refine ii_aload_n 1 dX10_countOrders_81 rfl ?_
                    refine ii_iload 5 dX10_countOrders_82 rfl ?_
                    refine ii_iload 0 dX10_countOrders_84 rfl ?_
                    obtain ⟨c_9, hc_9, h⟩ := bnd h
                    refine ii_callVi (As := [.int s_5.2, .int x_7]) (ws' := [(a_this, .inr (10, [.ref a_this_house, .ref a_this_ahead, .ref a_this_row, .ref a_this_found])), (a_this_ahead, .inl (cI, 9, .inl v_this_ahead)), (a_this_found, .inl (cI, 512, .inl s_2.2)), (a_this_house, .inr (0, [.ref a_this_house_merchants, .ref a_this_house_texts, .ref a_this_house_acts, .ref a_this_house_debts, .ref a_this_house_payments, .ref a_this_house_purses, .ref a_this_house_gates, .ref a_this_house_stones, .ref a_this_house_told, .ref a_this_house_letters, .ref a_this_house_mentions, .ref a_this_house_loads, .ref a_this_house_prices, .int v_this_house_narrow, .int v_this_house_names]))]) (st := []) (c_X10_isNext l D cI cJ cZ cH a_this a_this_ahead a_this_found a_this_house a_this_row v_this_ahead s_5.2 x_7 hc_9) gzX10_55 rfl rfl rfl eV_X10_isNext ⟨Nat.le_of_ble_eq_true rfl, Nat.le_of_ble_eq_true rfl⟩ rfl 0 rfl rfl [0, 1] rfl rfl rfl rfl rfl (Nat.le_of_ble_eq_true rfl) (Nat.le_refl _) (Nat.le_refl _) rfl dX10_countOrders_86 ?_
                    refine ii_if_eq (tgt := 102) h dX10_countOrders_89 (by decide) (fun h => ?_) (fun h => ?_)
                    · skip
                      refine ii_lv [1, 2, 3, 4, 5] rfl ?_
                      cases h
                      exact hjj_8
                    · skip
                      refine ii_iload_n 4 dX10_countOrders_92 rfl ?_
                      refine ii_aload_n 1 dX10_countOrders_93 rfl ?_
                      refine ii_get (C := RX10) (T := TX10) (N := 4) (ci := 10) izX10 0 rfl rfl 3 (by decide) kX10_18 rfl dX10_countOrders_94 ?_
                      refine ii_iload 0 dX10_countOrders_97 rfl ?_
                      refine ii_iald h 2 0 rfl rfl dX10_countOrders_99 (fun t_10 h => ?_)
                      refine ii_iadd dX10_countOrders_100 ?_
                      refine ii_topI h (fun x_11 h => ?_)
                      refine ii_istore_n (lv' := [(3, .int x_11), (5, .int x_7), (0, .ref a_this), (1, .int x_1), (2, .int s_2.1), (4, .int s_5.2)]) dX10_countOrders_101 rfl (by decide) rfl ?_
                      refine ii_lv [2, 3, 4, 0, 5] rfl ?_
                      cases h
                      exact hjj_8
      · skip
        refine ii_if_ne (tgt := 33) h dX10_countOrders_26 (by decide) (fun h => ?_) (fun h => ?_)
        · skip
          refine ii_iconst dX10_countOrders_33 kc0 ?_
          cases h
          exact hjj_4
        · skip
          refine ii_iconst dX10_countOrders_29 kc1 ?_
          refine ii_goto (tgt := 34) dX10_countOrders_30 (by decide) ?_
          cases h
          exact hjj_4
set_option maxHeartbeats 4000000 in
set_option maxRecDepth 100000 in
theorem c_X10_firstNext (l : Launch) (D : va_G) (cI cJ cZ cH : ClassId) (a_this a_this_ahead a_this_found a_this_house a_this_house_acts a_this_house_debts a_this_house_gates a_this_house_letters a_this_house_loads a_this_house_mentions a_this_house_merchants a_this_house_payments a_this_house_prices a_this_house_purses a_this_house_stones a_this_house_texts a_this_house_told a_this_row : Nat) (v_this_ahead : Nat → Int32) (v_this_house_names : Int32) (v_this_house_narrow : Int32) (p0 : Int32) {res : Int32} (h : F_X10_firstNext v_this_ahead v_this_house_names p0 = some res) : CTi l yX10_firstNext wzX10_firstNext { frames := 1, cells := 0, slots := 0, locals := 22 } D [(cI, .int), (cJ, .long), (cZ, .boolean), (cH, .object "TinHouse$House")] [.ref a_this, .int p0] [(a_this, .inr (10, [.ref a_this_house, .ref a_this_ahead, .ref a_this_row, .ref a_this_found])), (a_this_ahead, .inl (cI, 9, .inl v_this_ahead)), (a_this_house, .inr (0, [.ref a_this_house_merchants, .ref a_this_house_texts, .ref a_this_house_acts, .ref a_this_house_debts, .ref a_this_house_payments, .ref a_this_house_purses, .ref a_this_house_gates, .ref a_this_house_stones, .ref a_this_house_told, .ref a_this_house_letters, .ref a_this_house_mentions, .ref a_this_house_loads, .ref a_this_house_prices, .int v_this_house_narrow, .int v_this_house_names]))] res [(a_this, .inr (10, [.ref a_this_house, .ref a_this_ahead, .ref a_this_row, .ref a_this_found])), (a_this_ahead, .inl (cI, 9, .inl v_this_ahead)), (a_this_house, .inr (0, [.ref a_this_house_merchants, .ref a_this_house_texts, .ref a_this_house_acts, .ref a_this_house_debts, .ref a_this_house_payments, .ref a_this_house_purses, .ref a_this_house_gates, .ref a_this_house_stones, .ref a_this_house_told, .ref a_this_house_letters, .ref a_this_house_mentions, .ref a_this_house_loads, .ref a_this_house_prices, .int v_this_house_narrow, .int v_this_house_names]))] := by
  unfold F_X10_firstNext at h
  refine ii_metI (own := RX10) (lv0 := [(0, .ref a_this), (1, .int p0)]) (by decide) rfl rfl rfl (Nat.le_of_ble_eq_true rfl) (fun {p e s m args below meth c A Q} hQ => ?_)
  refine ii_iconst dX10_firstNext_0 kc0 ?_
  refine ii_istore_n (lv' := [(2, .int (0 : Int32)), (0, .ref a_this), (1, .int p0)]) dX10_firstNext_1 rfl (by decide) rfl ?_
  refine ii_lv [1, 2, 0] rfl ?_
  obtain ⟨x_2, hl_1, ha_1⟩ := bnd h
  refine ii_loopR (fun s_1 => [(a_this, .inr (10, [.ref a_this_house, .ref a_this_ahead, .ref a_this_row, .ref a_this_found])), (a_this_ahead, .inl (cI, 9, .inl v_this_ahead)), (a_this_house, .inr (0, [.ref a_this_house_merchants, .ref a_this_house_texts, .ref a_this_house_acts, .ref a_this_house_debts, .ref a_this_house_payments, .ref a_this_house_purses, .ref a_this_house_gates, .ref a_this_house_stones, .ref a_this_house_told, .ref a_this_house_letters, .ref a_this_house_mentions, .ref a_this_house_loads, .ref a_this_house_prices, .int v_this_house_narrow, .int v_this_house_names]))]) (fun s_1 => [(0, .ref a_this), (1, .int p0), (2, .int s_1)]) (fun y_3 => [(a_this, .inr (10, [.ref a_this_house, .ref a_this_ahead, .ref a_this_row, .ref a_this_found])), (a_this_ahead, .inl (cI, 9, .inl v_this_ahead)), (a_this_house, .inr (0, [.ref a_this_house_merchants, .ref a_this_house_texts, .ref a_this_house_acts, .ref a_this_house_debts, .ref a_this_house_payments, .ref a_this_house_purses, .ref a_this_house_gates, .ref a_this_house_stones, .ref a_this_house_told, .ref a_this_house_letters, .ref a_this_house_mentions, .ref a_this_house_loads, .ref a_this_house_prices, .int v_this_house_narrow, .int v_this_house_names]))]) (fun y_3 => []) 38 hl_1 rfl rfl (fun y_3 hy => ?_) (fun s_1 o h hb_1 hr_1 hx_1 => ?_)
  · skip
    subst hy
    have h := sm_l ha_1
    refine ii_iconst dX10_firstNext_38 kcm1 ?_
    cases h
    exact hQ _ _ dX10_firstNext_39
  · skip
    refine ii_iload_n 2 dX10_firstNext_2 rfl ?_
    refine ii_aload_n 0 dX10_firstNext_3 rfl ?_
    refine ii_get (C := RX10) (T := TX10) (N := 4) (ci := 10) izX10 0 rfl rfl 0 (by decide) kX10_21 rfl dX10_firstNext_4 ?_
    refine ii_get (C := RX0) (T := TX0) (N := 15) (ci := 0) izX0 2 rfl rfl 14 (by decide) kX10_47 rfl dX10_firstNext_7 ?_
    refine ii_icmp_ge (tgt := 38) h dX10_firstNext_10 (by decide) (fun h => ?_) (fun h => ?_)
    · skip
      refine ii_lv [] rfl ?_
      cases h
      exact hx_1 s_1 (hr_1 _ rfl)
    · skip
      refine ii_iload_n 1 dX10_firstNext_13 rfl ?_
      refine ii_iload_n 2 dX10_firstNext_14 rfl ?_
      refine ii_ishr dX10_firstNext_15 ?_
      refine ii_iconst dX10_firstNext_16 kc1 ?_
      refine ii_iand dX10_firstNext_17 ?_
      refine ii_if_ne (tgt := 32) h dX10_firstNext_18 (by decide) (fun h => ?_) (fun h => ?_)
      · skip
        refine ii_iinc (fun x_4 => [(2, .int x_4), (0, .ref a_this), (1, .int p0)]) h 2 dX10_firstNext_32 rfl kc1 (by decide) (fun _ => rfl) (fun x_4 h => ?_)
        refine ii_goto (tgt := 2) dX10_firstNext_35 (by decide) ?_
        refine ii_lv [1, 2, 0] rfl ?_
        cases h
        exact hb_1 x_4 rfl
      · skip
        refine ii_aload_n 0 dX10_firstNext_21 rfl ?_
        refine ii_iload_n 2 dX10_firstNext_22 rfl ?_
        refine ii_iload_n 1 dX10_firstNext_23 rfl ?_
        obtain ⟨c_5, hc_5, h⟩ := bnd h
        refine ii_callVi (As := [.int s_1, .int p0]) (ws' := [(a_this, .inr (10, [.ref a_this_house, .ref a_this_ahead, .ref a_this_row, .ref a_this_found])), (a_this_ahead, .inl (cI, 9, .inl v_this_ahead)), (a_this_house, .inr (0, [.ref a_this_house_merchants, .ref a_this_house_texts, .ref a_this_house_acts, .ref a_this_house_debts, .ref a_this_house_payments, .ref a_this_house_purses, .ref a_this_house_gates, .ref a_this_house_stones, .ref a_this_house_told, .ref a_this_house_letters, .ref a_this_house_mentions, .ref a_this_house_loads, .ref a_this_house_prices, .int v_this_house_narrow, .int v_this_house_names]))]) (st := []) (c_X10_isNext l D cI cJ cZ cH a_this a_this_ahead a_this_found a_this_house a_this_row v_this_ahead s_1 p0 hc_5) gzX10_55 rfl rfl rfl eV_X10_isNext ⟨Nat.le_of_ble_eq_true rfl, Nat.le_of_ble_eq_true rfl⟩ rfl 0 rfl rfl [0, 1] rfl rfl rfl rfl rfl (Nat.le_of_ble_eq_true rfl) (Nat.le_refl _) (Nat.le_refl _) rfl dX10_firstNext_24 ?_
        refine ii_if_eq (tgt := 32) h dX10_firstNext_27 (by decide) (fun h => ?_) (fun h => ?_)
        · skip
          refine ii_iinc (fun x_6 => [(2, .int x_6), (0, .ref a_this), (1, .int p0)]) h 2 dX10_firstNext_32 rfl kc1 (by decide) (fun _ => rfl) (fun x_6 h => ?_)
          refine ii_goto (tgt := 2) dX10_firstNext_35 (by decide) ?_
          refine ii_lv [1, 2, 0] rfl ?_
          cases h
          exact hb_1 x_6 rfl
        · skip
          refine ii_iload_n 2 dX10_firstNext_30 rfl ?_
          cases h
          cases hr_1 _ rfl
          have h := sm_r ha_1
          cases h
          exact hQ _ _ dX10_firstNext_31
set_option maxHeartbeats 4000000 in
set_option maxRecDepth 100000 in
theorem c_X10_layFirstOrder (l : Launch) (D : va_G) (cI cJ cZ cH : ClassId) (a_this a_this_ahead a_this_found a_this_house a_this_house_acts a_this_house_debts a_this_house_gates a_this_house_letters a_this_house_loads a_this_house_mentions a_this_house_merchants a_this_house_payments a_this_house_prices a_this_house_purses a_this_house_stones a_this_house_texts a_this_house_told a_this_row : Nat) (v_this_ahead : Nat → Int32) (v_this_house_names : Int32) (v_this_house_narrow : Int32) (v_this_row : Nat → Int32) {res : Int32 × (Nat → Int32)} (h : F_X10_layFirstOrder v_this_ahead v_this_house_names v_this_row = some res) : CTi l yX10_layFirstOrder wzX10_layFirstOrder { frames := 2, cells := 0, slots := 0, locals := 44 } D [(cI, .int), (cJ, .long), (cZ, .boolean), (cH, .object "TinHouse$House")] [.ref a_this] [(a_this, .inr (10, [.ref a_this_house, .ref a_this_ahead, .ref a_this_row, .ref a_this_found])), (a_this_ahead, .inl (cI, 9, .inl v_this_ahead)), (a_this_house, .inr (0, [.ref a_this_house_merchants, .ref a_this_house_texts, .ref a_this_house_acts, .ref a_this_house_debts, .ref a_this_house_payments, .ref a_this_house_purses, .ref a_this_house_gates, .ref a_this_house_stones, .ref a_this_house_told, .ref a_this_house_letters, .ref a_this_house_mentions, .ref a_this_house_loads, .ref a_this_house_prices, .int v_this_house_narrow, .int v_this_house_names])), (a_this_row, .inl (cI, 9, .inl v_this_row))] res.1 [(a_this, .inr (10, [.ref a_this_house, .ref a_this_ahead, .ref a_this_row, .ref a_this_found])), (a_this_ahead, .inl (cI, 9, .inl v_this_ahead)), (a_this_house, .inr (0, [.ref a_this_house_merchants, .ref a_this_house_texts, .ref a_this_house_acts, .ref a_this_house_debts, .ref a_this_house_payments, .ref a_this_house_purses, .ref a_this_house_gates, .ref a_this_house_stones, .ref a_this_house_told, .ref a_this_house_letters, .ref a_this_house_mentions, .ref a_this_house_loads, .ref a_this_house_prices, .int v_this_house_narrow, .int v_this_house_names])), (a_this_row, .inl (cI, 9, .inl res.2))] := by
  unfold F_X10_layFirstOrder at h
  refine ii_metZ (own := RX10) (lv0 := [(0, .ref a_this)]) (by decide) rfl rfl rfl (Nat.le_of_ble_eq_true rfl) (fun {p e s m args below meth c A Q} hQ => ?_)
  refine ii_iconst dX10_layFirstOrder_0 kc0 ?_
  refine ii_istore_n (lv' := [(1, .int (0 : Int32)), (0, .ref a_this)]) dX10_layFirstOrder_1 rfl (by decide) rfl ?_
  refine ii_iconst dX10_layFirstOrder_2 kc0 ?_
  refine ii_istore_n (lv' := [(2, .int (0 : Int32)), (1, .int (0 : Int32)), (0, .ref a_this)]) dX10_layFirstOrder_3 rfl (by decide) rfl ?_
  refine ii_lv [2, 1, 0] rfl ?_
  obtain ⟨x_2, hl_1, ha_1⟩ := bnd h
  refine ii_loopR (fun s_1 => [(a_this, .inr (10, [.ref a_this_house, .ref a_this_ahead, .ref a_this_row, .ref a_this_found])), (a_this_ahead, .inl (cI, 9, .inl v_this_ahead)), (a_this_house, .inr (0, [.ref a_this_house_merchants, .ref a_this_house_texts, .ref a_this_house_acts, .ref a_this_house_debts, .ref a_this_house_payments, .ref a_this_house_purses, .ref a_this_house_gates, .ref a_this_house_stones, .ref a_this_house_told, .ref a_this_house_letters, .ref a_this_house_mentions, .ref a_this_house_loads, .ref a_this_house_prices, .int v_this_house_narrow, .int v_this_house_names])), (a_this_row, .inl (cI, 9, .inl s_1.2.2))]) (fun s_1 => [(0, .ref a_this), (1, .int s_1.1), (2, .int s_1.2.1)]) (fun y_3 => [(a_this, .inr (10, [.ref a_this_house, .ref a_this_ahead, .ref a_this_row, .ref a_this_found])), (a_this_ahead, .inl (cI, 9, .inl v_this_ahead)), (a_this_house, .inr (0, [.ref a_this_house_merchants, .ref a_this_house_texts, .ref a_this_house_acts, .ref a_this_house_debts, .ref a_this_house_payments, .ref a_this_house_purses, .ref a_this_house_gates, .ref a_this_house_stones, .ref a_this_house_told, .ref a_this_house_letters, .ref a_this_house_mentions, .ref a_this_house_loads, .ref a_this_house_prices, .int v_this_house_narrow, .int v_this_house_names])), (a_this_row, .inl (cI, 9, .inl y_3.2.2))]) (fun y_3 => []) 56 hl_1 rfl rfl (fun y_3 hy => ?_) (fun s_1 o h hb_1 hr_1 hx_1 => ?_)
  · skip
    subst hy
    have h := sm_l ha_1
    refine ii_iconst dX10_layFirstOrder_56 kc1 ?_
    cases h
    exact hQ _ _ dX10_layFirstOrder_57 (Or.inr rfl)
  · skip
    refine ii_iload_n 2 dX10_layFirstOrder_4 rfl ?_
    refine ii_aload_n 0 dX10_layFirstOrder_5 rfl ?_
    refine ii_get (C := RX10) (T := TX10) (N := 4) (ci := 10) izX10 0 rfl rfl 0 (by decide) kX10_21 rfl dX10_layFirstOrder_6 ?_
    refine ii_get (C := RX0) (T := TX0) (N := 15) (ci := 0) izX0 2 rfl rfl 14 (by decide) kX10_47 rfl dX10_layFirstOrder_9 ?_
    refine ii_icmp_ge (tgt := 56) h dX10_layFirstOrder_12 (by decide) (fun h => ?_) (fun h => ?_)
    · skip
      refine ii_lv [] rfl ?_
      cases h
      exact hx_1 (s_1.1, s_1.2.1, s_1.2.2) (hr_1 _ rfl)
    · skip
      refine ii_iload_n 2 dX10_layFirstOrder_15 rfl ?_
      refine ii_aload_n 0 dX10_layFirstOrder_16 rfl ?_
      refine ii_get (C := RX10) (T := TX10) (N := 4) (ci := 10) izX10 0 rfl rfl 2 (by decide) kX10_15 rfl dX10_layFirstOrder_17 ?_
      refine ii_alen (v := (9 : Int32)) 3 0 rfl rfl rfl dX10_layFirstOrder_20 ?_
      refine ii_icmp_ge (tgt := 56) h dX10_layFirstOrder_21 (by decide) (fun h => ?_) (fun h => ?_)
      · skip
        refine ii_lv [] rfl ?_
        cases h
        exact hx_1 (s_1.1, s_1.2.1, s_1.2.2) (hr_1 _ rfl)
      · skip
        refine ii_aload_n 0 dX10_layFirstOrder_24 rfl ?_
        refine ii_iload_n 1 dX10_layFirstOrder_25 rfl ?_
        obtain ⟨c_4, hc_4, h⟩ := bnd h
        refine ii_callVi (As := [.int s_1.1]) (ws' := [(a_this, .inr (10, [.ref a_this_house, .ref a_this_ahead, .ref a_this_row, .ref a_this_found])), (a_this_ahead, .inl (cI, 9, .inl v_this_ahead)), (a_this_house, .inr (0, [.ref a_this_house_merchants, .ref a_this_house_texts, .ref a_this_house_acts, .ref a_this_house_debts, .ref a_this_house_payments, .ref a_this_house_purses, .ref a_this_house_gates, .ref a_this_house_stones, .ref a_this_house_told, .ref a_this_house_letters, .ref a_this_house_mentions, .ref a_this_house_loads, .ref a_this_house_prices, .int v_this_house_narrow, .int v_this_house_names])), (a_this_row, .inl (cI, 9, .inl s_1.2.2))]) (st := []) (c_X10_firstNext l D cI cJ cZ cH a_this a_this_ahead a_this_found a_this_house a_this_house_acts a_this_house_debts a_this_house_gates a_this_house_letters a_this_house_loads a_this_house_mentions a_this_house_merchants a_this_house_payments a_this_house_prices a_this_house_purses a_this_house_stones a_this_house_texts a_this_house_told a_this_row v_this_ahead v_this_house_names v_this_house_narrow s_1.1 hc_4) gzX10_59 rfl rfl rfl eV_X10_firstNext ⟨Nat.le_of_ble_eq_true rfl, Nat.le_of_ble_eq_true rfl⟩ rfl 0 rfl rfl [0, 1, 2] rfl rfl rfl rfl rfl (Nat.le_of_ble_eq_true rfl) (Nat.le_refl _) (Nat.le_refl _) rfl dX10_layFirstOrder_26 ?_
        refine ii_istore_n (lv' := [(3, .int c_4), (0, .ref a_this), (1, .int s_1.1), (2, .int s_1.2.1)]) dX10_layFirstOrder_29 rfl (by decide) rfl ?_
        refine ii_iload_n 0 dX10_layFirstOrder_30 rfl ?_
        refine ii_iconst dX10_layFirstOrder_31 kcm1 ?_
        refine ii_icmp_ne (tgt := 37) h dX10_layFirstOrder_32 (by decide) (fun h => ?_) (fun h => ?_)
        · skip
          refine ii_aload_n 1 dX10_layFirstOrder_37 rfl ?_
          refine ii_get (C := RX10) (T := TX10) (N := 4) (ci := 10) izX10 0 rfl rfl 2 (by decide) kX10_15 rfl dX10_layFirstOrder_38 ?_
          refine ii_iload_n 3 dX10_layFirstOrder_41 rfl ?_
          refine ii_iload_n 0 dX10_layFirstOrder_42 rfl ?_
          refine ii_iast (fun g_5 => [(a_this, .inr (10, [.ref a_this_house, .ref a_this_ahead, .ref a_this_row, .ref a_this_found])), (a_this_ahead, .inl (cI, 9, .inl v_this_ahead)), (a_this_house, .inr (0, [.ref a_this_house_merchants, .ref a_this_house_texts, .ref a_this_house_acts, .ref a_this_house_debts, .ref a_this_house_payments, .ref a_this_house_purses, .ref a_this_house_gates, .ref a_this_house_stones, .ref a_this_house_told, .ref a_this_house_letters, .ref a_this_house_mentions, .ref a_this_house_loads, .ref a_this_house_prices, .int v_this_house_narrow, .int v_this_house_names])), (a_this_row, .inl (cI, 9, .inl g_5))]) h 3 0 rfl rfl dX10_layFirstOrder_43 (fun _ => rfl) (fun g_5 h => ?_)
          refine ii_iload_n 2 dX10_layFirstOrder_44 rfl ?_
          refine ii_iconst dX10_layFirstOrder_45 kc1 ?_
          refine ii_iload_n 0 dX10_layFirstOrder_46 rfl ?_
          refine ii_ishl dX10_layFirstOrder_47 ?_
          refine ii_ior dX10_layFirstOrder_48 ?_
          refine ii_topI h (fun x_6 h => ?_)
          refine ii_istore_n (lv' := [(1, .int x_6), (3, .int c_4), (0, .ref a_this), (2, .int s_1.2.1)]) dX10_layFirstOrder_49 rfl (by decide) rfl ?_
          refine ii_iinc (fun x_7 => [(2, .int x_7), (1, .int x_6), (3, .int c_4), (0, .ref a_this)]) h 3 dX10_layFirstOrder_50 rfl kc1 (by decide) (fun _ => rfl) (fun x_7 h => ?_)
          refine ii_goto (tgt := 4) dX10_layFirstOrder_53 (by decide) ?_
          refine ii_lv [3, 1, 0] rfl ?_
          cases h
          exact hb_1 (x_6, x_7, g_5) rfl
        · skip
          refine ii_iconst dX10_layFirstOrder_35 kc0 ?_
          cases h
          cases hr_1 _ rfl
          have h := sm_r ha_1
          cases h
          exact hQ _ _ dX10_layFirstOrder_36 (Or.inl rfl)
set_option maxHeartbeats 4000000 in
set_option maxRecDepth 100000 in
theorem c_X10_nameAt (l : Launch) (D : va_G) (cI cJ cZ cH : ClassId) (a_this a_this_ahead a_this_found a_this_house a_this_row : Nat) (v_this_row : Nat → Int32) (p0 : Int32) {res : Int32} (h : F_X10_nameAt v_this_row p0 = some res) : CTi l yX10_nameAt wzX10_nameAt { frames := 0, cells := 0, slots := 0, locals := 0 } D [(cI, .int), (cJ, .long), (cZ, .boolean), (cH, .object "TinHouse$House")] [.ref a_this, .int p0] [(a_this, .inr (10, [.ref a_this_house, .ref a_this_ahead, .ref a_this_row, .ref a_this_found])), (a_this_row, .inl (cI, 9, .inl v_this_row))] res [(a_this, .inr (10, [.ref a_this_house, .ref a_this_ahead, .ref a_this_row, .ref a_this_found])), (a_this_row, .inl (cI, 9, .inl v_this_row))] := by
  unfold F_X10_nameAt at h
  refine ii_metI (own := RX10) (lv0 := [(0, .ref a_this), (1, .int p0)]) (by decide) rfl rfl rfl (Nat.le_of_ble_eq_true rfl) (fun {p e s m args below meth c A Q} hQ => ?_)
  refine ii_iload_n 1 dX10_nameAt_0 rfl ?_
  refine ii_jn h (fun j_1 => [(a_this, .inr (10, [.ref a_this_house, .ref a_this_ahead, .ref a_this_row, .ref a_this_found])), (a_this_row, .inl (cI, 9, .inl v_this_row))]) (fun j_1 => []) 23 (fun j_1 => [.int j_1]) (fun j_1 h => ?_) (fun j_1 h hjj_1 => ?_)
  · skip
    cases h
    exact hQ _ _ dX10_nameAt_23
  · skip
    refine ii_if_lt (tgt := 22) h dX10_nameAt_1 (by decide) (fun h => ?_) (fun h => ?_)
    · skip
      refine ii_iconst dX10_nameAt_22 kcm1 ?_
      refine ii_lv [] rfl ?_
      cases h
      exact hjj_1
    · skip
      refine ii_iload_n 1 dX10_nameAt_4 rfl ?_
      refine ii_aload_n 0 dX10_nameAt_5 rfl ?_
      refine ii_get (C := RX10) (T := TX10) (N := 4) (ci := 10) izX10 0 rfl rfl 2 (by decide) kX10_15 rfl dX10_nameAt_6 ?_
      refine ii_alen (v := (9 : Int32)) 1 0 rfl rfl rfl dX10_nameAt_9 ?_
      refine ii_icmp_ge (tgt := 22) h dX10_nameAt_10 (by decide) (fun h => ?_) (fun h => ?_)
      · skip
        refine ii_iconst dX10_nameAt_22 kcm1 ?_
        refine ii_lv [] rfl ?_
        cases h
        exact hjj_1
      · skip
        refine ii_aload_n 0 dX10_nameAt_13 rfl ?_
        refine ii_get (C := RX10) (T := TX10) (N := 4) (ci := 10) izX10 0 rfl rfl 2 (by decide) kX10_15 rfl dX10_nameAt_14 ?_
        refine ii_iload_n 1 dX10_nameAt_17 rfl ?_
        refine ii_iald h 1 0 rfl rfl dX10_nameAt_18 (fun t_2 h => ?_)
        refine ii_goto (tgt := 23) dX10_nameAt_19 (by decide) ?_
        refine ii_lv [] rfl ?_
        cases h
        exact hjj_1
set_option maxHeartbeats 4000000 in
set_option maxRecDepth 100000 in
theorem c_X10_countAhead (l : Launch) (D : va_G) (cI cJ cZ cH : ClassId) (a_this a_this_ahead a_this_found a_this_house a_this_row : Nat) (v_this_ahead : Nat → Int32) (p0 : Int32) {res : Int32} (h : F_X10_countAhead v_this_ahead p0 = some res) : CTi l yX10_countAhead wzX10_countAhead { frames := 1, cells := 0, slots := 0, locals := 20 } D [(cI, .int), (cJ, .long), (cZ, .boolean), (cH, .object "TinHouse$House")] [.ref a_this, .int p0] [(a_this, .inr (10, [.ref a_this_house, .ref a_this_ahead, .ref a_this_row, .ref a_this_found])), (a_this_ahead, .inl (cI, 9, .inl v_this_ahead))] res [(a_this, .inr (10, [.ref a_this_house, .ref a_this_ahead, .ref a_this_row, .ref a_this_found])), (a_this_ahead, .inl (cI, 9, .inl v_this_ahead))] := by
  unfold F_X10_countAhead at h
  refine ii_metI (own := RX10) (lv0 := [(0, .ref a_this), (1, .int p0)]) (by decide) rfl rfl rfl (Nat.le_of_ble_eq_true rfl) (fun {p e s m args below meth c A Q} hQ => ?_)
  refine ii_iload_n 1 dX10_countAhead_0 rfl ?_
  refine ii_jn h (fun j_1 => [(a_this, .inr (10, [.ref a_this_house, .ref a_this_ahead, .ref a_this_row, .ref a_this_found])), (a_this_ahead, .inl (cI, 9, .inl v_this_ahead))]) (fun j_1 => []) 26 (fun j_1 => [.int j_1]) (fun j_1 h => ?_) (fun j_1 h hjj_1 => ?_)
  · skip
    cases h
    exact hQ _ _ dX10_countAhead_26
  · skip
    refine ii_if_lt (tgt := 25) h dX10_countAhead_1 (by decide) (fun h => ?_) (fun h => ?_)
    · skip
      refine ii_iconst dX10_countAhead_25 kc0 ?_
      refine ii_lv [] rfl ?_
      cases h
      exact hjj_1
    · skip
      refine ii_iload_n 1 dX10_countAhead_4 rfl ?_
      refine ii_aload_n 0 dX10_countAhead_5 rfl ?_
      refine ii_get (C := RX10) (T := TX10) (N := 4) (ci := 10) izX10 0 rfl rfl 1 (by decide) kX10_9 rfl dX10_countAhead_6 ?_
      refine ii_alen (v := (9 : Int32)) 1 0 rfl rfl rfl dX10_countAhead_9 ?_
      refine ii_icmp_ge (tgt := 25) h dX10_countAhead_10 (by decide) (fun h => ?_) (fun h => ?_)
      · skip
        refine ii_iconst dX10_countAhead_25 kc0 ?_
        refine ii_lv [] rfl ?_
        cases h
        exact hjj_1
      · skip
        refine ii_aload_n 0 dX10_countAhead_13 rfl ?_
        refine ii_get (C := RX10) (T := TX10) (N := 4) (ci := 10) izX10 0 rfl rfl 1 (by decide) kX10_9 rfl dX10_countAhead_14 ?_
        refine ii_iload_n 1 dX10_countAhead_17 rfl ?_
        refine ii_iald h 1 0 rfl rfl dX10_countAhead_18 (fun t_2 h => ?_)
        obtain ⟨c_3, hc_3, h⟩ := bnd h
        refine ii_callJi (As := [.int t_2]) (ws' := [(a_this, .inr (10, [.ref a_this_house, .ref a_this_ahead, .ref a_this_row, .ref a_this_found])), (a_this_ahead, .inl (cI, 9, .inl v_this_ahead))]) (st := []) (c_J6_bitCount_0f7a4 l D cI cJ cZ cH t_2 hc_3) gzX10_63 rfl rfl rfl eJ_J6_bitCount_0f7a4 ⟨Nat.le_of_ble_eq_true rfl, Nat.le_of_ble_eq_true rfl⟩ rfl [] rfl rfl rfl rfl rfl (Nat.le_of_ble_eq_true rfl) (Nat.le_refl _) (Nat.le_refl _) rfl dX10_countAhead_19 ?_
        refine ii_goto (tgt := 26) dX10_countAhead_22 (by decide) ?_
        refine ii_lv [] rfl ?_
        cases h
        exact hjj_1
set_option maxHeartbeats 4000000 in
set_option maxRecDepth 100000 in
theorem c_X10_countBehind (l : Launch) (D : va_G) (cI cJ cZ cH : ClassId) (a_this a_this_ahead a_this_found a_this_house a_this_house_acts a_this_house_debts a_this_house_gates a_this_house_letters a_this_house_loads a_this_house_mentions a_this_house_merchants a_this_house_payments a_this_house_prices a_this_house_purses a_this_house_stones a_this_house_texts a_this_house_told a_this_row : Nat) (v_this_ahead : Nat → Int32) (v_this_house_names : Int32) (v_this_house_narrow : Int32) (p0 : Int32) {res : Int32} (h : F_X10_countBehind v_this_ahead v_this_house_names p0 = some res) : CTi l yX10_countBehind wzX10_countBehind { frames := 0, cells := 0, slots := 0, locals := 0 } D [(cI, .int), (cJ, .long), (cZ, .boolean), (cH, .object "TinHouse$House")] [.ref a_this, .int p0] [(a_this, .inr (10, [.ref a_this_house, .ref a_this_ahead, .ref a_this_row, .ref a_this_found])), (a_this_ahead, .inl (cI, 9, .inl v_this_ahead)), (a_this_house, .inr (0, [.ref a_this_house_merchants, .ref a_this_house_texts, .ref a_this_house_acts, .ref a_this_house_debts, .ref a_this_house_payments, .ref a_this_house_purses, .ref a_this_house_gates, .ref a_this_house_stones, .ref a_this_house_told, .ref a_this_house_letters, .ref a_this_house_mentions, .ref a_this_house_loads, .ref a_this_house_prices, .int v_this_house_narrow, .int v_this_house_names]))] res [(a_this, .inr (10, [.ref a_this_house, .ref a_this_ahead, .ref a_this_row, .ref a_this_found])), (a_this_ahead, .inl (cI, 9, .inl v_this_ahead)), (a_this_house, .inr (0, [.ref a_this_house_merchants, .ref a_this_house_texts, .ref a_this_house_acts, .ref a_this_house_debts, .ref a_this_house_payments, .ref a_this_house_purses, .ref a_this_house_gates, .ref a_this_house_stones, .ref a_this_house_told, .ref a_this_house_letters, .ref a_this_house_mentions, .ref a_this_house_loads, .ref a_this_house_prices, .int v_this_house_narrow, .int v_this_house_names]))] := by
  unfold F_X10_countBehind at h
  refine ii_metI (own := RX10) (lv0 := [(0, .ref a_this), (1, .int p0)]) (by decide) rfl rfl rfl (Nat.le_of_ble_eq_true rfl) (fun {p e s m args below meth c A Q} hQ => ?_)
  refine ii_iconst dX10_countBehind_0 kc0 ?_
  refine ii_istore_n (lv' := [(2, .int (0 : Int32)), (0, .ref a_this), (1, .int p0)]) dX10_countBehind_1 rfl (by decide) rfl ?_
  refine ii_iconst dX10_countBehind_2 kc0 ?_
  refine ii_istore_n (lv' := [(3, .int (0 : Int32)), (2, .int (0 : Int32)), (0, .ref a_this), (1, .int p0)]) dX10_countBehind_3 rfl (by decide) rfl ?_
  refine ii_lv [2, 3, 1, 0] rfl ?_
  obtain ⟨x_2, hl_1, h⟩ := bnd h
  refine ii_loopX (fun s_1 => [(a_this, .inr (10, [.ref a_this_house, .ref a_this_ahead, .ref a_this_row, .ref a_this_found])), (a_this_ahead, .inl (cI, 9, .inl v_this_ahead)), (a_this_house, .inr (0, [.ref a_this_house_merchants, .ref a_this_house_texts, .ref a_this_house_acts, .ref a_this_house_debts, .ref a_this_house_payments, .ref a_this_house_purses, .ref a_this_house_gates, .ref a_this_house_stones, .ref a_this_house_told, .ref a_this_house_letters, .ref a_this_house_mentions, .ref a_this_house_loads, .ref a_this_house_prices, .int v_this_house_narrow, .int v_this_house_names]))]) (fun s_1 => [(0, .ref a_this), (1, .int p0), (2, .int s_1.1), (3, .int s_1.2)]) (fun x_2 => [(a_this, .inr (10, [.ref a_this_house, .ref a_this_ahead, .ref a_this_row, .ref a_this_found])), (a_this_ahead, .inl (cI, 9, .inl v_this_ahead)), (a_this_house, .inr (0, [.ref a_this_house_merchants, .ref a_this_house_texts, .ref a_this_house_acts, .ref a_this_house_debts, .ref a_this_house_payments, .ref a_this_house_purses, .ref a_this_house_gates, .ref a_this_house_stones, .ref a_this_house_told, .ref a_this_house_letters, .ref a_this_house_mentions, .ref a_this_house_loads, .ref a_this_house_prices, .int v_this_house_narrow, .int v_this_house_names]))]) (fun x_2 => [(2, .int x_2.1)]) 43 hl_1 rfl rfl ?_ (fun s_1 o h hb_1 hr_1 hx_1 => ?_)
  · skip
    refine ii_iload_n 0 dX10_countBehind_43 rfl ?_
    cases h
    exact hQ _ _ dX10_countBehind_44
  · skip
    refine ii_iload_n 3 dX10_countBehind_4 rfl ?_
    refine ii_aload_n 0 dX10_countBehind_5 rfl ?_
    refine ii_get (C := RX10) (T := TX10) (N := 4) (ci := 10) izX10 0 rfl rfl 0 (by decide) kX10_21 rfl dX10_countBehind_6 ?_
    refine ii_get (C := RX0) (T := TX0) (N := 15) (ci := 0) izX0 2 rfl rfl 14 (by decide) kX10_47 rfl dX10_countBehind_9 ?_
    refine ii_icmp_ge (tgt := 43) h dX10_countBehind_12 (by decide) (fun h => ?_) (fun h => ?_)
    · skip
      refine ii_lv [2] rfl ?_
      cases h
      exact hx_1 (s_1.1, s_1.2) (hr_1 _ rfl)
    · skip
      refine ii_iload_n 3 dX10_countBehind_15 rfl ?_
      refine ii_aload_n 0 dX10_countBehind_16 rfl ?_
      refine ii_get (C := RX10) (T := TX10) (N := 4) (ci := 10) izX10 0 rfl rfl 1 (by decide) kX10_9 rfl dX10_countBehind_17 ?_
      refine ii_alen (v := (9 : Int32)) 1 0 rfl rfl rfl dX10_countBehind_20 ?_
      refine ii_icmp_ge (tgt := 43) h dX10_countBehind_21 (by decide) (fun h => ?_) (fun h => ?_)
      · skip
        refine ii_lv [2] rfl ?_
        cases h
        exact hx_1 (s_1.1, s_1.2) (hr_1 _ rfl)
      · skip
        refine ii_iload_n 2 dX10_countBehind_24 rfl ?_
        refine ii_aload_n 0 dX10_countBehind_25 rfl ?_
        refine ii_get (C := RX10) (T := TX10) (N := 4) (ci := 10) izX10 0 rfl rfl 1 (by decide) kX10_9 rfl dX10_countBehind_26 ?_
        refine ii_iload_n 3 dX10_countBehind_29 rfl ?_
        refine ii_iald h 1 0 rfl rfl dX10_countBehind_30 (fun t_3 h => ?_)
        refine ii_iload_n 1 dX10_countBehind_31 rfl ?_
        refine ii_ishr dX10_countBehind_32 ?_
        refine ii_iconst dX10_countBehind_33 kc1 ?_
        refine ii_iand dX10_countBehind_34 ?_
        refine ii_iadd dX10_countBehind_35 ?_
        refine ii_topI h (fun x_4 h => ?_)
        refine ii_istore_n (lv' := [(2, .int x_4), (0, .ref a_this), (1, .int p0), (3, .int s_1.2)]) dX10_countBehind_36 rfl (by decide) rfl ?_
        refine ii_iinc (fun x_5 => [(3, .int x_5), (2, .int x_4), (0, .ref a_this), (1, .int p0)]) h 3 dX10_countBehind_37 rfl kc1 (by decide) (fun _ => rfl) (fun x_5 h => ?_)
        refine ii_goto (tgt := 4) dX10_countBehind_40 (by decide) ?_
        refine ii_lv [2, 3, 1, 0] rfl ?_
        cases h
        exact hb_1 (x_4, x_5) rfl
