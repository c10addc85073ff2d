set_option maxHeartbeats 4000000 in
set_option maxRecDepth 100000 in
theorem c_X2_gather (l : Launch) (D : va_G) (cI cJ cZ cH : ClassId) (a_this a_this_house a_this_house_acts a_this_house_debts a_this_house_gates a_this_house_letters a_this_house_loads a_this_house_mentions a_this_house_merchants a_this_house_payments a_this_house_payments_cells a_this_house_prices a_this_house_purses a_this_house_stones a_this_house_texts a_this_house_told a_this_law a_this_paid : Nat) (v_this_house_names : Int32) (v_this_house_narrow : Int32) (v_this_house_payments_cells : Nat → Int32) (v_this_house_payments_rows : Int32) (v_this_paid : Nat → Int64) (p0 : Int32) {res : (Nat → Int64)} (h : F_X2_gather v_this_house_payments_cells v_this_house_payments_rows v_this_paid p0 = some res) : CTv l yX2_gather wzX2_gather { frames := 2, cells := 0, slots := 0, locals := 46 } D [(cI, .int), (cJ, .long), (cZ, .boolean), (cH, .object "TinHouse$House")] [.ref a_this, .int p0] [(a_this, .inr (2, [.ref a_this_house, .ref a_this_law, .ref a_this_paid])), (a_this_house, .inr (0, [.ref a_this_house_merchants, .ref a_this_house_texts, .ref a_this_house_acts, .ref a_this_house_debts, .ref a_this_house_payments, .ref a_this_house_purses, .ref a_this_house_gates, .ref a_this_house_stones, .ref a_this_house_told, .ref a_this_house_letters, .ref a_this_house_mentions, .ref a_this_house_loads, .ref a_this_house_prices, .int v_this_house_narrow, .int v_this_house_names])), (a_this_house_payments, .inr (8, [.int (3 : Int32), .int (60 : Int32), .ref a_this_house_payments_cells, .int v_this_house_payments_rows])), (a_this_house_payments_cells, .inl (cI, 180, .inl v_this_house_payments_cells)), (a_this_paid, .inl (cJ, 100, .inr (.inl v_this_paid)))] [(a_this, .inr (2, [.ref a_this_house, .ref a_this_law, .ref a_this_paid])), (a_this_house, .inr (0, [.ref a_this_house_merchants, .ref a_this_house_texts, .ref a_this_house_acts, .ref a_this_house_debts, .ref a_this_house_payments, .ref a_this_house_purses, .ref a_this_house_gates, .ref a_this_house_stones, .ref a_this_house_told, .ref a_this_house_letters, .ref a_this_house_mentions, .ref a_this_house_loads, .ref a_this_house_prices, .int v_this_house_narrow, .int v_this_house_names])), (a_this_house_payments, .inr (8, [.int (3 : Int32), .int (60 : Int32), .ref a_this_house_payments_cells, .int v_this_house_payments_rows])), (a_this_house_payments_cells, .inl (cI, 180, .inl v_this_house_payments_cells)), (a_this_paid, .inl (cJ, 100, .inr (.inl res)))] := by
  unfold F_X2_gather at h
  refine ii_metV (own := RX2) (lv0 := [(0, .ref a_this), (1, .int p0)]) (by decide) rfl rfl rfl (Nat.le_of_ble_eq_true rfl) (fun {p e s m args below meth c A Q} hQ => ?_)
  refine ii_aload_n 0 dX2_gather_0 rfl ?_
  refine ii_get (C := RX2) (T := TX2) (N := 3) (ci := 2) izX2 0 rfl rfl 2 (by decide) kX2_9 rfl dX2_gather_1 ?_
  refine ii_lconst dX2_gather_4 kl0 ?_
  obtain ⟨c_1, hc_1, h⟩ := bnd h
  refine ii_callJv (As := [.ref a_this_paid, .long (0 : Int64)]) (ws' := [(a_this, .inr (2, [.ref a_this_house, .ref a_this_law, .ref a_this_paid])), (a_this_house, .inr (0, [.ref a_this_house_merchants, .ref a_this_house_texts, .ref a_this_house_acts, .ref a_this_house_debts, .ref a_this_house_payments, .ref a_this_house_purses, .ref a_this_house_gates, .ref a_this_house_stones, .ref a_this_house_told, .ref a_this_house_letters, .ref a_this_house_mentions, .ref a_this_house_loads, .ref a_this_house_prices, .int v_this_house_narrow, .int v_this_house_names])), (a_this_house_payments, .inr (8, [.int (3 : Int32), .int (60 : Int32), .ref a_this_house_payments_cells, .int v_this_house_payments_rows])), (a_this_house_payments_cells, .inl (cI, 180, .inl v_this_house_payments_cells)), (a_this_paid, .inl (cJ, 100, .inr (.inl c_1)))]) (st := []) (c_J7_fill_d0a16 l D cI cJ cZ cH a_this_paid 100 v_this_paid (0 : Int64) hc_1) gzX2_68 rfl rfl rfl eJ_J7_fill_d0a16 ⟨Nat.le_of_ble_eq_true rfl, Nat.le_of_ble_eq_true rfl⟩ rfl [4] rfl rfl rfl rfl rfl (Nat.le_of_ble_eq_true rfl) (Nat.le_refl _) (Nat.le_refl _) rfl dX2_gather_5 ?_
  refine ii_iconst dX2_gather_8 kc0 ?_
  refine ii_istore_n (lv' := [(2, .int (0 : Int32)), (0, .ref a_this), (1, .int p0)]) dX2_gather_9 rfl (by decide) rfl ?_
  refine ii_lv [1, 2, 0] rfl ?_
  obtain ⟨x_3, hl_2, h⟩ := bnd h
  refine ii_loopX (fun s_2 => [(a_this, .inr (2, [.ref a_this_house, .ref a_this_law, .ref a_this_paid])), (a_this_house, .inr (0, [.ref a_this_house_merchants, .ref a_this_house_texts, .ref a_this_house_acts, .ref a_this_house_debts, .ref a_this_house_payments, .ref a_this_house_purses, .ref a_this_house_gates, .ref a_this_house_stones, .ref a_this_house_told, .ref a_this_house_letters, .ref a_this_house_mentions, .ref a_this_house_loads, .ref a_this_house_prices, .int v_this_house_narrow, .int v_this_house_names])), (a_this_house_payments, .inr (8, [.int (3 : Int32), .int (60 : Int32), .ref a_this_house_payments_cells, .int v_this_house_payments_rows])), (a_this_house_payments_cells, .inl (cI, 180, .inl v_this_house_payments_cells)), (a_this_paid, .inl (cJ, 100, .inr (.inl s_2.2)))]) (fun s_2 => [(0, .ref a_this), (1, .int p0), (2, .int s_2.1)]) (fun x_3 => [(a_this, .inr (2, [.ref a_this_house, .ref a_this_law, .ref a_this_paid])), (a_this_house, .inr (0, [.ref a_this_house_merchants, .ref a_this_house_texts, .ref a_this_house_acts, .ref a_this_house_debts, .ref a_this_house_payments, .ref a_this_house_purses, .ref a_this_house_gates, .ref a_this_house_stones, .ref a_this_house_told, .ref a_this_house_letters, .ref a_this_house_mentions, .ref a_this_house_loads, .ref a_this_house_prices, .int v_this_house_narrow, .int v_this_house_names])), (a_this_house_payments, .inr (8, [.int (3 : Int32), .int (60 : Int32), .ref a_this_house_payments_cells, .int v_this_house_payments_rows])), (a_this_house_payments_cells, .inl (cI, 180, .inl v_this_house_payments_cells)), (a_this_paid, .inl (cJ, 100, .inr (.inl x_3.2)))]) (fun x_3 => []) 94 hl_2 rfl rfl ?_ (fun s_2 o h hb_2 hr_2 hx_2 => ?_)
  · skip
    cases h
    exact hQ _ _ dX2_gather_94
  · skip
    refine ii_iload_n 2 dX2_gather_10 rfl ?_
    refine ii_aload_n 0 dX2_gather_11 rfl ?_
    refine ii_get (C := RX2) (T := TX2) (N := 3) (ci := 2) izX2 0 rfl rfl 0 (by decide) kX2_15 rfl dX2_gather_12 ?_
    refine ii_get (C := RX0) (T := TX0) (N := 15) (ci := 0) izX0 1 rfl rfl 4 (by decide) kX2_74 rfl dX2_gather_15 ?_
    refine ii_get (C := RX8) (T := TX8) (N := 4) (ci := 8) izX8 2 rfl rfl 3 (by decide) kX2_77 rfl dX2_gather_18 ?_
    refine ii_icmp_ge (tgt := 94) h dX2_gather_21 (by decide) (fun h => ?_) (fun h => ?_)
    · skip
      refine ii_lv [] rfl ?_
      cases h
      exact hx_2 (s_2.1, s_2.2) (hr_2 _ rfl)
    · skip
      refine ii_aload_n 0 dX2_gather_24 rfl ?_
      refine ii_get (C := RX2) (T := TX2) (N := 3) (ci := 2) izX2 0 rfl rfl 0 (by decide) kX2_15 rfl dX2_gather_25 ?_
      refine ii_get (C := RX0) (T := TX0) (N := 15) (ci := 0) izX0 1 rfl rfl 4 (by decide) kX2_74 rfl dX2_gather_28 ?_
      refine ii_iload_n 2 dX2_gather_31 rfl ?_
      refine ii_iconst dX2_gather_32 kc1 ?_
      obtain ⟨c_4, hc_4, h⟩ := bnd h
      refine ii_callVi (As := [.int s_2.1, .int (1 : Int32)]) (ws' := [(a_this, .inr (2, [.ref a_this_house, .ref a_this_law, .ref a_this_paid])), (a_this_house, .inr (0, [.ref a_this_house_merchants, .ref a_this_house_texts, .ref a_this_house_acts, .ref a_this_house_debts, .ref a_this_house_payments, .ref a_this_house_purses, .ref a_this_house_gates, .ref a_this_house_stones, .ref a_this_house_told, .ref a_this_house_letters, .ref a_this_house_mentions, .ref a_this_house_loads, .ref a_this_house_prices, .int v_this_house_narrow, .int v_this_house_names])), (a_this_house_payments, .inr (8, [.int (3 : Int32), .int (60 : Int32), .ref a_this_house_payments_cells, .int v_this_house_payments_rows])), (a_this_house_payments_cells, .inl (cI, 180, .inl v_this_house_payments_cells)), (a_this_paid, .inl (cJ, 100, .inr (.inl s_2.2)))]) (st := []) (c_X8_get l D cI cJ cZ cH a_this_house_payments a_this_house_payments_cells 180 v_this_house_payments_cells (60 : Int32) v_this_house_payments_rows (3 : Int32) s_2.1 (1 : Int32) hc_4) gzX2_29 rfl rfl rfl eV_X8_get ⟨Nat.le_of_ble_eq_true rfl, Nat.le_of_ble_eq_true rfl⟩ rfl 2 rfl rfl [2, 3] rfl rfl rfl rfl rfl (Nat.le_of_ble_eq_true rfl) (Nat.le_refl _) (Nat.le_refl _) rfl dX2_gather_33 ?_
      refine ii_istore_n (lv' := [(3, .int c_4), (0, .ref a_this), (1, .int p0), (2, .int s_2.1)]) dX2_gather_36 rfl (by decide) rfl ?_
      refine ii_aload_n 1 dX2_gather_37 rfl ?_
      refine ii_get (C := RX2) (T := TX2) (N := 3) (ci := 2) izX2 0 rfl rfl 0 (by decide) kX2_15 rfl dX2_gather_38 ?_
      refine ii_get (C := RX0) (T := TX0) (N := 15) (ci := 0) izX0 1 rfl rfl 4 (by decide) kX2_74 rfl dX2_gather_41 ?_
      refine ii_iload_n 3 dX2_gather_44 rfl ?_
      refine ii_iconst dX2_gather_45 kc0 ?_
      obtain ⟨c_5, hc_5, h⟩ := bnd h
      refine ii_callVi (As := [.int s_2.1, .int (0 : Int32)]) (ws' := [(a_this, .inr (2, [.ref a_this_house, .ref a_this_law, .ref a_this_paid])), (a_this_house, .inr (0, [.ref a_this_house_merchants, .ref a_this_house_texts, .ref a_this_house_acts, .ref a_this_house_debts, .ref a_this_house_payments, .ref a_this_house_purses, .ref a_this_house_gates, .ref a_this_house_stones, .ref a_this_house_told, .ref a_this_house_letters, .ref a_this_house_mentions, .ref a_this_house_loads, .ref a_this_house_prices, .int v_this_house_narrow, .int v_this_house_names])), (a_this_house_payments, .inr (8, [.int (3 : Int32), .int (60 : Int32), .ref a_this_house_payments_cells, .int v_this_house_payments_rows])), (a_this_house_payments_cells, .inl (cI, 180, .inl v_this_house_payments_cells)), (a_this_paid, .inl (cJ, 100, .inr (.inl s_2.2)))]) (st := []) (c_X8_get l D cI cJ cZ cH a_this_house_payments a_this_house_payments_cells 180 v_this_house_payments_cells (60 : Int32) v_this_house_payments_rows (3 : Int32) s_2.1 (0 : Int32) hc_5) gzX2_29 rfl rfl rfl eV_X8_get ⟨Nat.le_of_ble_eq_true rfl, Nat.le_of_ble_eq_true rfl⟩ rfl 2 rfl rfl [2, 3] rfl rfl rfl rfl rfl (Nat.le_of_ble_eq_true rfl) (Nat.le_refl _) (Nat.le_refl _) rfl dX2_gather_46 ?_
      refine ii_iload_n 2 dX2_gather_49 rfl ?_
      refine ii_jn h (fun j_6 => [(a_this, .inr (2, [.ref a_this_house, .ref a_this_law, .ref a_this_paid])), (a_this_house, .inr (0, [.ref a_this_house_merchants, .ref a_this_house_texts, .ref a_this_house_acts, .ref a_this_house_debts, .ref a_this_house_payments, .ref a_this_house_purses, .ref a_this_house_gates, .ref a_this_house_stones, .ref a_this_house_told, .ref a_this_house_letters, .ref a_this_house_mentions, .ref a_this_house_loads, .ref a_this_house_prices, .int v_this_house_narrow, .int v_this_house_names])), (a_this_house_payments, .inr (8, [.int (3 : Int32), .int (60 : Int32), .ref a_this_house_payments_cells, .int v_this_house_payments_rows])), (a_this_house_payments_cells, .inl (cI, 180, .inl v_this_house_payments_cells)), (a_this_paid, .inl (cJ, 100, .inr (.inl j_6)))]) (fun j_6 => [(0, .ref a_this), (1, .int p0), (2, .int s_2.1)]) 88 (fun j_6 => []) (fun j_6 h => ?_) (fun j_6 h hjj_6 => ?_)
      · skip
        refine ii_iinc (fun x_10 => [(2, .int x_10), (0, .ref a_this), (1, .int p0)]) h 2 dX2_gather_88 rfl kc1 (by decide) (fun _ => rfl) (fun x_10 h => ?_)
        refine ii_goto (tgt := 10) dX2_gather_91 (by decide) ?_
        refine ii_lv [1, 2, 0] rfl ?_
        cases h
        exact hb_2 (x_10, j_6) rfl
      · skip
        refine ii_icmp_ne (tgt := 88) h dX2_gather_50 (by decide) (fun h => ?_) (fun h => ?_)
        · skip
          refine ii_lv [1, 2, 3] rfl ?_
          cases h
          exact hjj_6
        · skip
          refine ii_iload_n 0 dX2_gather_53 rfl ?_
          refine ii_if_lt (tgt := 88) h dX2_gather_54 (by decide) (fun h => ?_) (fun h => ?_)
          · skip
            refine ii_lv [1, 2, 3] rfl ?_
            cases h
            exact hjj_6
          · skip
            refine ii_iload_n 0 dX2_gather_57 rfl ?_
            refine ii_aload_n 1 dX2_gather_58 rfl ?_
            refine ii_get (C := RX2) (T := TX2) (N := 3) (ci := 2) izX2 0 rfl rfl 2 (by decide) kX2_9 rfl dX2_gather_59 ?_
            refine ii_alen (v := (100 : Int32)) 4 1 rfl rfl rfl dX2_gather_62 ?_
            refine ii_icmp_ge (tgt := 88) h dX2_gather_63 (by decide) (fun h => ?_) (fun h => ?_)
            · skip
              refine ii_lv [1, 2, 3] rfl ?_
              cases h
              exact hjj_6
            · skip
              refine ii_aload_n 1 dX2_gather_66 rfl ?_
              refine ii_get (C := RX2) (T := TX2) (N := 3) (ci := 2) izX2 0 rfl rfl 2 (by decide) kX2_9 rfl dX2_gather_67 ?_
              refine ii_iload_n 0 dX2_gather_70 rfl ?_
              refine ii_dup2 dX2_gather_71 rfl rfl ?_
              refine ii_lald h 4 1 rfl rfl dX2_gather_72 (fun t_7 h => ?_)
              refine ii_aload_n 1 dX2_gather_73 rfl ?_
              refine ii_get (C := RX2) (T := TX2) (N := 3) (ci := 2) izX2 0 rfl rfl 0 (by decide) kX2_15 rfl dX2_gather_74 ?_
              refine ii_get (C := RX0) (T := TX0) (N := 15) (ci := 0) izX0 1 rfl rfl 4 (by decide) kX2_74 rfl dX2_gather_77 ?_
              refine ii_iload_n 3 dX2_gather_80 rfl ?_
              refine ii_iconst dX2_gather_81 kc2 ?_
              obtain ⟨c_8, hc_8, h⟩ := bnd h
              refine ii_callVi (As := [.int s_2.1, .int (2 : Int32)]) (ws' := [(a_this, .inr (2, [.ref a_this_house, .ref a_this_law, .ref a_this_paid])), (a_this_house, .inr (0, [.ref a_this_house_merchants, .ref a_this_house_texts, .ref a_this_house_acts, .ref a_this_house_debts, .ref a_this_house_payments, .ref a_this_house_purses, .ref a_this_house_gates, .ref a_this_house_stones, .ref a_this_house_told, .ref a_this_house_letters, .ref a_this_house_mentions, .ref a_this_house_loads, .ref a_this_house_prices, .int v_this_house_narrow, .int v_this_house_names])), (a_this_house_payments, .inr (8, [.int (3 : Int32), .int (60 : Int32), .ref a_this_house_payments_cells, .int v_this_house_payments_rows])), (a_this_house_payments_cells, .inl (cI, 180, .inl v_this_house_payments_cells)), (a_this_paid, .inl (cJ, 100, .inr (.inl s_2.2)))]) (st := [.long t_7, .int c_4, .ref a_this_paid]) (c_X8_get l D cI cJ cZ cH a_this_house_payments a_this_house_payments_cells 180 v_this_house_payments_cells (60 : Int32) v_this_house_payments_rows (3 : Int32) s_2.1 (2 : Int32) hc_8) gzX2_29 rfl rfl rfl eV_X8_get ⟨Nat.le_of_ble_eq_true rfl, Nat.le_of_ble_eq_true rfl⟩ rfl 2 rfl rfl [2, 3] rfl rfl rfl rfl rfl (Nat.le_of_ble_eq_true rfl) (Nat.le_refl _) (Nat.le_refl _) rfl dX2_gather_82 ?_
              refine ii_i2l dX2_gather_85 ?_
              refine ii_ladd dX2_gather_86 ?_
              refine ii_last (fun g_9 => [(a_this, .inr (2, [.ref a_this_house, .ref a_this_law, .ref a_this_paid])), (a_this_house, .inr (0, [.ref a_this_house_merchants, .ref a_this_house_texts, .ref a_this_house_acts, .ref a_this_house_debts, .ref a_this_house_payments, .ref a_this_house_purses, .ref a_this_house_gates, .ref a_this_house_stones, .ref a_this_house_told, .ref a_this_house_letters, .ref a_this_house_mentions, .ref a_this_house_loads, .ref a_this_house_prices, .int v_this_house_narrow, .int v_this_house_names])), (a_this_house_payments, .inr (8, [.int (3 : Int32), .int (60 : Int32), .ref a_this_house_payments_cells, .int v_this_house_payments_rows])), (a_this_house_payments_cells, .inl (cI, 180, .inl v_this_house_payments_cells)), (a_this_paid, .inl (cJ, 100, .inr (.inl g_9)))]) h 4 1 rfl rfl dX2_gather_87 (fun _ => rfl) (fun g_9 h => ?_)
              refine ii_lv [1, 2, 3] rfl ?_
              cases h
              exact hjj_6
set_option maxHeartbeats 4000000 in
set_option maxRecDepth 100000 in
theorem c_X2_sumLent (l : Launch) (D : va_G) (cI cJ cZ cH : ClassId) (a_this a_this_house a_this_house_acts a_this_house_debts a_this_house_debts_cells a_this_house_gates a_this_house_letters a_this_house_loads a_this_house_mentions a_this_house_merchants a_this_house_payments a_this_house_prices a_this_house_purses a_this_house_stones a_this_house_texts a_this_house_told a_this_law a_this_paid : Nat) (v_this_house_debts_cells : Nat → Int32) (v_this_house_debts_rows : Int32) (v_this_house_names : Int32) (v_this_house_narrow : Int32) (p0 : Int32) (p1 : Int32) {res : Int64} (h : F_X2_sumLent v_this_house_debts_cells v_this_house_debts_rows p0 p1 = some res) : CTl l yX2_sumLent wzX2_sumLent { frames := 2, cells := 0, slots := 0, locals := 46 } D [(cI, .int), (cJ, .long), (cZ, .boolean), (cH, .object "TinHouse$House")] [.ref a_this, .int p0, .int p1] [(a_this, .inr (2, [.ref a_this_house, .ref a_this_law, .ref a_this_paid])), (a_this_house, .inr (0, [.ref a_this_house_merchants, .ref a_this_house_texts, .ref a_this_house_acts, .ref a_this_house_debts, .ref a_this_house_payments, .ref a_this_house_purses, .ref a_this_house_gates, .ref a_this_house_stones, .ref a_this_house_told, .ref a_this_house_letters, .ref a_this_house_mentions, .ref a_this_house_loads, .ref a_this_house_prices, .int v_this_house_narrow, .int v_this_house_names])), (a_this_house_debts, .inr (8, [.int (7 : Int32), .int (40 : Int32), .ref a_this_house_debts_cells, .int v_this_house_debts_rows])), (a_this_house_debts_cells, .inl (cI, 280, .inl v_this_house_debts_cells))] res [(a_this, .inr (2, [.ref a_this_house, .ref a_this_law, .ref a_this_paid])), (a_this_house, .inr (0, [.ref a_this_house_merchants, .ref a_this_house_texts, .ref a_this_house_acts, .ref a_this_house_debts, .ref a_this_house_payments, .ref a_this_house_purses, .ref a_this_house_gates, .ref a_this_house_stones, .ref a_this_house_told, .ref a_this_house_letters, .ref a_this_house_mentions, .ref a_this_house_loads, .ref a_this_house_prices, .int v_this_house_narrow, .int v_this_house_names])), (a_this_house_debts, .inr (8, [.int (7 : Int32), .int (40 : Int32), .ref a_this_house_debts_cells, .int v_this_house_debts_rows])), (a_this_house_debts_cells, .inl (cI, 280, .inl v_this_house_debts_cells))] := by
  unfold F_X2_sumLent at h
  refine ii_metL (own := RX2) (lv0 := [(0, .ref a_this), (1, .int p0), (2, .int p1)]) (by decide) rfl rfl rfl (Nat.le_of_ble_eq_true rfl) (fun {p e s m args below meth c A Q} hQ => ?_)
  refine ii_aload_n 0 dX2_sumLent_0 rfl ?_
  refine ii_get (C := RX2) (T := TX2) (N := 3) (ci := 2) izX2 0 rfl rfl 0 (by decide) kX2_15 rfl dX2_sumLent_1 ?_
  refine ii_get (C := RX0) (T := TX0) (N := 15) (ci := 0) izX0 1 rfl rfl 3 (by decide) kX2_23 rfl dX2_sumLent_4 ?_
  refine ii_iload_n 1 dX2_sumLent_7 rfl ?_
  refine ii_iconst dX2_sumLent_8 kc5 ?_
  obtain ⟨c_1, hc_1, h⟩ := bnd h
  refine ii_callVi (As := [.int p0, .int (5 : Int32)]) (ws' := [(a_this, .inr (2, [.ref a_this_house, .ref a_this_law, .ref a_this_paid])), (a_this_house, .inr (0, [.ref a_this_house_merchants, .ref a_this_house_texts, .ref a_this_house_acts, .ref a_this_house_debts, .ref a_this_house_payments, .ref a_this_house_purses, .ref a_this_house_gates, .ref a_this_house_stones, .ref a_this_house_told, .ref a_this_house_letters, .ref a_this_house_mentions, .ref a_this_house_loads, .ref a_this_house_prices, .int v_this_house_narrow, .int v_this_house_names])), (a_this_house_debts, .inr (8, [.int (7 : Int32), .int (40 : Int32), .ref a_this_house_debts_cells, .int v_this_house_debts_rows])), (a_this_house_debts_cells, .inl (cI, 280, .inl v_this_house_debts_cells))]) (st := []) (c_X8_get l D cI cJ cZ cH a_this_house_debts a_this_house_debts_cells 280 v_this_house_debts_cells (40 : Int32) v_this_house_debts_rows (7 : Int32) p0 (5 : Int32) hc_1) gzX2_29 rfl rfl rfl eV_X8_get ⟨Nat.le_of_ble_eq_true rfl, Nat.le_of_ble_eq_true rfl⟩ rfl 2 rfl rfl [2, 3] rfl rfl rfl rfl rfl (Nat.le_of_ble_eq_true rfl) (Nat.le_refl _) (Nat.le_refl _) rfl dX2_sumLent_9 ?_
  refine ii_istore_n (lv' := [(3, .int c_1), (0, .ref a_this), (1, .int p0), (2, .int p1)]) dX2_sumLent_12 rfl (by decide) rfl ?_
  refine ii_aload_n 1 dX2_sumLent_13 rfl ?_
  refine ii_get (C := RX2) (T := TX2) (N := 3) (ci := 2) izX2 0 rfl rfl 0 (by decide) kX2_15 rfl dX2_sumLent_14 ?_
  refine ii_get (C := RX0) (T := TX0) (N := 15) (ci := 0) izX0 1 rfl rfl 3 (by decide) kX2_23 rfl dX2_sumLent_17 ?_
  refine ii_iload_n 2 dX2_sumLent_20 rfl ?_
  refine ii_bipush dX2_sumLent_21 kb6 ?_
  obtain ⟨c_2, hc_2, h⟩ := bnd h
  refine ii_callVi (As := [.int p0, .int (6 : Int32)]) (ws' := [(a_this, .inr (2, [.ref a_this_house, .ref a_this_law, .ref a_this_paid])), (a_this_house, .inr (0, [.ref a_this_house_merchants, .ref a_this_house_texts, .ref a_this_house_acts, .ref a_this_house_debts, .ref a_this_house_payments, .ref a_this_house_purses, .ref a_this_house_gates, .ref a_this_house_stones, .ref a_this_house_told, .ref a_this_house_letters, .ref a_this_house_mentions, .ref a_this_house_loads, .ref a_this_house_prices, .int v_this_house_narrow, .int v_this_house_names])), (a_this_house_debts, .inr (8, [.int (7 : Int32), .int (40 : Int32), .ref a_this_house_debts_cells, .int v_this_house_debts_rows])), (a_this_house_debts_cells, .inl (cI, 280, .inl v_this_house_debts_cells))]) (st := []) (c_X8_get l D cI cJ cZ cH a_this_house_debts a_this_house_debts_cells 280 v_this_house_debts_cells (40 : Int32) v_this_house_debts_rows (7 : Int32) p0 (6 : Int32) hc_2) gzX2_29 rfl rfl rfl eV_X8_get ⟨Nat.le_of_ble_eq_true rfl, Nat.le_of_ble_eq_true rfl⟩ rfl 2 rfl rfl [2, 3] rfl rfl rfl rfl rfl (Nat.le_of_ble_eq_true rfl) (Nat.le_refl _) (Nat.le_refl _) rfl dX2_sumLent_23 ?_
  refine ii_istore (lv' := [(4, .int c_2), (3, .int c_1), (0, .ref a_this), (1, .int p0), (2, .int p1)]) dX2_sumLent_26 (by decide) rfl ?_
  refine ii_iload_n 1 dX2_sumLent_28 rfl ?_
  refine ii_iconst dX2_sumLent_29 kcm1 ?_
  refine ii_jn h (fun j_3 => [(a_this, .inr (2, [.ref a_this_house, .ref a_this_law, .ref a_this_paid])), (a_this_house, .inr (0, [.ref a_this_house_merchants, .ref a_this_house_texts, .ref a_this_house_acts, .ref a_this_house_debts, .ref a_this_house_payments, .ref a_this_house_purses, .ref a_this_house_gates, .ref a_this_house_stones, .ref a_this_house_told, .ref a_this_house_letters, .ref a_this_house_mentions, .ref a_this_house_loads, .ref a_this_house_prices, .int v_this_house_narrow, .int v_this_house_names])), (a_this_house_debts, .inr (8, [.int (7 : Int32), .int (40 : Int32), .ref a_this_house_debts_cells, .int v_this_house_debts_rows])), (a_this_house_debts_cells, .inl (cI, 280, .inl v_this_house_debts_cells))]) (fun j_3 => [(0, .ref a_this), (1, .int p0), (3, .int c_1)]) 50 (fun j_3 => [.int j_3]) (fun j_3 h => ?_) (fun j_3 h hjj_3 => ?_)
  · skip
    refine ii_istore (lv' := [(5, .int j_3), (0, .ref a_this), (1, .int p0), (3, .int c_1)]) dX2_sumLent_50 (by decide) rfl ?_
    refine ii_iload 0 dX2_sumLent_52 rfl ?_
    refine ii_jn h (fun j_4 => [(a_this, .inr (2, [.ref a_this_house, .ref a_this_law, .ref a_this_paid])), (a_this_house, .inr (0, [.ref a_this_house_merchants, .ref a_this_house_texts, .ref a_this_house_acts, .ref a_this_house_debts, .ref a_this_house_payments, .ref a_this_house_purses, .ref a_this_house_gates, .ref a_this_house_stones, .ref a_this_house_told, .ref a_this_house_letters, .ref a_this_house_mentions, .ref a_this_house_loads, .ref a_this_house_prices, .int v_this_house_narrow, .int v_this_house_names])), (a_this_house_debts, .inr (8, [.int (7 : Int32), .int (40 : Int32), .ref a_this_house_debts_cells, .int v_this_house_debts_rows])), (a_this_house_debts_cells, .inl (cI, 280, .inl v_this_house_debts_cells))]) (fun j_4 => []) 75 (fun j_4 => [.long j_4]) (fun j_4 h => ?_) (fun j_4 h hjj_4 => ?_)
    · skip
      cases h
      exact hQ _ _ dX2_sumLent_75
    · skip
      refine ii_if_eq (tgt := 62) h dX2_sumLent_54 (by decide) (fun h => ?_) (fun h => ?_)
      · skip
        refine ii_aload_n 1 dX2_sumLent_62 rfl ?_
        refine ii_get (C := RX2) (T := TX2) (N := 3) (ci := 2) izX2 0 rfl rfl 0 (by decide) kX2_15 rfl dX2_sumLent_63 ?_
        refine ii_get (C := RX0) (T := TX0) (N := 15) (ci := 0) izX0 1 rfl rfl 3 (by decide) kX2_23 rfl dX2_sumLent_66 ?_
        refine ii_iload_n 2 dX2_sumLent_69 rfl ?_
        refine ii_iconst dX2_sumLent_70 kc2 ?_
        obtain ⟨c_5, hc_5, h⟩ := bnd h
        refine ii_callVi (As := [.int p0, .int (2 : Int32)]) (ws' := [(a_this, .inr (2, [.ref a_this_house, .ref a_this_law, .ref a_this_paid])), (a_this_house, .inr (0, [.ref a_this_house_merchants, .ref a_this_house_texts, .ref a_this_house_acts, .ref a_this_house_debts, .ref a_this_house_payments, .ref a_this_house_purses, .ref a_this_house_gates, .ref a_this_house_stones, .ref a_this_house_told, .ref a_this_house_letters, .ref a_this_house_mentions, .ref a_this_house_loads, .ref a_this_house_prices, .int v_this_house_narrow, .int v_this_house_names])), (a_this_house_debts, .inr (8, [.int (7 : Int32), .int (40 : Int32), .ref a_this_house_debts_cells, .int v_this_house_debts_rows])), (a_this_house_debts_cells, .inl (cI, 280, .inl v_this_house_debts_cells))]) (st := []) (c_X8_get l D cI cJ cZ cH a_this_house_debts a_this_house_debts_cells 280 v_this_house_debts_cells (40 : Int32) v_this_house_debts_rows (7 : Int32) p0 (2 : Int32) hc_5) gzX2_29 rfl rfl rfl eV_X8_get ⟨Nat.le_of_ble_eq_true rfl, Nat.le_of_ble_eq_true rfl⟩ rfl 2 rfl rfl [2, 3] rfl rfl rfl rfl rfl (Nat.le_of_ble_eq_true rfl) (Nat.le_refl _) (Nat.le_refl _) rfl dX2_sumLent_71 ?_
        refine ii_i2l dX2_sumLent_74 ?_
        refine ii_lv [] rfl ?_
        cases h
        exact hjj_4
      · skip
        refine ii_iload_n 3 dX2_sumLent_57 rfl ?_
        refine ii_i2l dX2_sumLent_58 ?_
        refine ii_goto (tgt := 75) dX2_sumLent_59 (by decide) ?_
        refine ii_lv [] rfl ?_
        cases h
        exact hjj_4
  · skip
    refine ii_icmp_eq (tgt := 49) h dX2_sumLent_30 (by decide) (fun h => ?_) (fun h => ?_)
    · skip
      refine ii_iconst dX2_sumLent_49 kc0 ?_
      refine ii_lv [2, 3, 1] rfl ?_
      cases h
      exact hjj_3
    · skip
      refine ii_iload 0 dX2_sumLent_33 rfl ?_
      refine ii_iconst dX2_sumLent_35 kcm1 ?_
      refine ii_icmp_eq (tgt := 45) h dX2_sumLent_36 (by decide) (fun h => ?_) (fun h => ?_)
      · skip
        refine ii_iconst dX2_sumLent_45 kc1 ?_
        refine ii_goto (tgt := 50) dX2_sumLent_46 (by decide) ?_
        refine ii_lv [2, 3, 1] rfl ?_
        cases h
        exact hjj_3
      · skip
        refine ii_iload_n 4 dX2_sumLent_39 rfl ?_
        refine ii_iload 0 dX2_sumLent_40 rfl ?_
        refine ii_icmp_ge (tgt := 49) h dX2_sumLent_42 (by decide) (fun h => ?_) (fun h => ?_)
        · skip
          refine ii_iconst dX2_sumLent_49 kc0 ?_
          refine ii_lv [2, 3, 1] rfl ?_
          cases h
          exact hjj_3
        · skip
          refine ii_iconst dX2_sumLent_45 kc1 ?_
          refine ii_goto (tgt := 50) dX2_sumLent_46 (by decide) ?_
          refine ii_lv [2, 3, 1] rfl ?_
          cases h
          exact hjj_3
set_option maxHeartbeats 4000000 in
set_option maxRecDepth 100000 in
theorem c_X2_left (l : Launch) (D : va_G) (cI cJ cZ cH : ClassId) (a_this a_this_house a_this_house_acts a_this_house_acts_cells a_this_house_debts a_this_house_debts_cells a_this_house_gates a_this_house_letters a_this_house_loads a_this_house_mentions a_this_house_merchants a_this_house_merchants_cells a_this_house_payments a_this_house_payments_cells a_this_house_prices a_this_house_purses a_this_house_stones a_this_house_texts a_this_house_told a_this_law a_this_law_stack a_this_paid : Nat) (v_this_house_acts_cells : Nat → Int32) (v_this_house_acts_rows : Int32) (v_this_house_debts_cells : Nat → Int32) (v_this_house_debts_rows : Int32) (v_this_house_merchants_cells : Nat → Int32) (v_this_house_merchants_rows : Int32) (v_this_house_names : Int32) (v_this_house_narrow : Int32) (v_this_house_payments_cells : Nat → Int32) (v_this_house_payments_rows : Int32) (v_this_law_about : Int64) (v_this_law_gate : Int32) (v_this_law_height : Int32) (v_this_law_kin : Int32) (v_this_law_season : Int32) (v_this_law_stack : Nat → Int64) (v_this_law_town : Int32) (v_this_paid : Nat → Int64) (p0 : Int32) (p1 : Int32) {res : Int64 × Int64 × Int32 × Int32 × Int32 × Int32 × (Nat → Int64) × Int32 × (Nat → Int64)} (h : F_X2_left v_this_house_acts_cells v_this_house_acts_rows v_this_house_debts_cells v_this_house_debts_rows v_this_house_merchants_cells v_this_house_merchants_rows v_this_house_payments_cells v_this_house_payments_rows v_this_law_about v_this_law_gate v_this_law_height v_this_law_kin v_this_law_season v_this_law_stack v_this_law_town v_this_paid p0 p1 = some res) : CTl l yX2_left wzX2_left { frames := 4, cells := 0, slots := 0, locals := 107 } D [(cI, .int), (cJ, .long), (cZ, .boolean), (cH, .object "TinHouse$House")] [.ref a_this, .int p0, .int p1] [(a_this, .inr (2, [.ref a_this_house, .ref a_this_law, .ref a_this_paid])), (a_this_house, .inr (0, [.ref a_this_house_merchants, .ref a_this_house_texts, .ref a_this_house_acts, .ref a_this_house_debts, .ref a_this_house_payments, .ref a_this_house_purses, .ref a_this_house_gates, .ref a_this_house_stones, .ref a_this_house_told, .ref a_this_house_letters, .ref a_this_house_mentions, .ref a_this_house_loads, .ref a_this_house_prices, .int v_this_house_narrow, .int v_this_house_names])), (a_this_house_acts, .inr (8, [.int (104 : Int32), .int (16 : Int32), .ref a_this_house_acts_cells, .int v_this_house_acts_rows])), (a_this_house_acts_cells, .inl (cI, 1664, .inl v_this_house_acts_cells)), (a_this_house_debts, .inr (8, [.int (7 : Int32), .int (40 : Int32), .ref a_this_house_debts_cells, .int v_this_house_debts_rows])), (a_this_house_debts_cells, .inl (cI, 280, .inl v_this_house_debts_cells)), (a_this_house_merchants, .inr (8, [.int (2 : Int32), .int (10 : Int32), .ref a_this_house_merchants_cells, .int v_this_house_merchants_rows])), (a_this_house_merchants_cells, .inl (cI, 20, .inl v_this_house_merchants_cells)), (a_this_house_payments, .inr (8, [.int (3 : Int32), .int (60 : Int32), .ref a_this_house_payments_cells, .int v_this_house_payments_rows])), (a_this_house_payments_cells, .inl (cI, 180, .inl v_this_house_payments_cells)), (a_this_law, .inr (1, [.ref a_this_house, .ref a_this_law_stack, .int v_this_law_height, .int v_this_law_gate, .int v_this_law_kin, .int v_this_law_town, .int v_this_law_season, .long v_this_law_about])), (a_this_law_stack, .inl (cJ, 50, .inr (.inl v_this_law_stack))), (a_this_paid, .inl (cJ, 100, .inr (.inl v_this_paid)))] res.1 [(a_this, .inr (2, [.ref a_this_house, .ref a_this_law, .ref a_this_paid])), (a_this_house, .inr (0, [.ref a_this_house_merchants, .ref a_this_house_texts, .ref a_this_house_acts, .ref a_this_house_debts, .ref a_this_house_payments, .ref a_this_house_purses, .ref a_this_house_gates, .ref a_this_house_stones, .ref a_this_house_told, .ref a_this_house_letters, .ref a_this_house_mentions, .ref a_this_house_loads, .ref a_this_house_prices, .int v_this_house_narrow, .int v_this_house_names])), (a_this_house_acts, .inr (8, [.int (104 : Int32), .int (16 : Int32), .ref a_this_house_acts_cells, .int v_this_house_acts_rows])), (a_this_house_acts_cells, .inl (cI, 1664, .inl v_this_house_acts_cells)), (a_this_house_debts, .inr (8, [.int (7 : Int32), .int (40 : Int32), .ref a_this_house_debts_cells, .int v_this_house_debts_rows])), (a_this_house_debts_cells, .inl (cI, 280, .inl v_this_house_debts_cells)), (a_this_house_merchants, .inr (8, [.int (2 : Int32), .int (10 : Int32), .ref a_this_house_merchants_cells, .int v_this_house_merchants_rows])), (a_this_house_merchants_cells, .inl (cI, 20, .inl v_this_house_merchants_cells)), (a_this_house_payments, .inr (8, [.int (3 : Int32), .int (60 : Int32), .ref a_this_house_payments_cells, .int v_this_house_payments_rows])), (a_this_house_payments_cells, .inl (cI, 180, .inl v_this_house_payments_cells)), (a_this_law, .inr (1, [.ref a_this_house, .ref a_this_law_stack, .int res.2.2.2.1, .int res.2.2.1, .int res.2.2.2.2.1, .int res.2.2.2.2.2.2.2.1, .int res.2.2.2.2.2.1, .long res.2.1])), (a_this_law_stack, .inl (cJ, 50, .inr (.inl res.2.2.2.2.2.2.1))), (a_this_paid, .inl (cJ, 100, .inr (.inl res.2.2.2.2.2.2.2.2)))] := by
  unfold F_X2_left at h
  refine ii_metL (own := RX2) (lv0 := [(0, .ref a_this), (1, .int p0), (2, .int p1)]) (by decide) rfl rfl rfl (Nat.le_of_ble_eq_true rfl) (fun {p e s m args below meth c A Q} hQ => ?_)
  refine ii_aload_n 0 dX2_left_0 rfl ?_
  refine ii_get (C := RX2) (T := TX2) (N := 3) (ci := 2) izX2 0 rfl rfl 0 (by decide) kX2_15 rfl dX2_left_1 ?_
  refine ii_get (C := RX0) (T := TX0) (N := 15) (ci := 0) izX0 1 rfl rfl 3 (by decide) kX2_23 rfl dX2_left_4 ?_
  refine ii_astore_n (lv' := [(3, .ref a_this_house_debts), (0, .ref a_this), (1, .int p0), (2, .int p1)]) dX2_left_7 rfl (by decide) rfl ?_
  refine ii_aload_n 0 dX2_left_8 rfl ?_
  refine ii_iload_n 2 dX2_left_9 rfl ?_
  refine ii_iconst dX2_left_10 kc3 ?_
  obtain ⟨c_1, hc_1, h⟩ := bnd h
  refine ii_callVi (As := [.int p0, .int (3 : Int32)]) (ws' := [(a_this, .inr (2, [.ref a_this_house, .ref a_this_law, .ref a_this_paid])), (a_this_house, .inr (0, [.ref a_this_house_merchants, .ref a_this_house_texts, .ref a_this_house_acts, .ref a_this_house_debts, .ref a_this_house_payments, .ref a_this_house_purses, .ref a_this_house_gates, .ref a_this_house_stones, .ref a_this_house_told, .ref a_this_house_letters, .ref a_this_house_mentions, .ref a_this_house_loads, .ref a_this_house_prices, .int v_this_house_narrow, .int v_this_house_names])), (a_this_house_acts, .inr (8, [.int (104 : Int32), .int (16 : Int32), .ref a_this_house_acts_cells, .int v_this_house_acts_rows])), (a_this_house_acts_cells, .inl (cI, 1664, .inl v_this_house_acts_cells)), (a_this_house_debts, .inr (8, [.int (7 : Int32), .int (40 : Int32), .ref a_this_house_debts_cells, .int v_this_house_debts_rows])), (a_this_house_debts_cells, .inl (cI, 280, .inl v_this_house_debts_cells)), (a_this_house_merchants, .inr (8, [.int (2 : Int32), .int (10 : Int32), .ref a_this_house_merchants_cells, .int v_this_house_merchants_rows])), (a_this_house_merchants_cells, .inl (cI, 20, .inl v_this_house_merchants_cells)), (a_this_house_payments, .inr (8, [.int (3 : Int32), .int (60 : Int32), .ref a_this_house_payments_cells, .int v_this_house_payments_rows])), (a_this_house_payments_cells, .inl (cI, 180, .inl v_this_house_payments_cells)), (a_this_law, .inr (1, [.ref a_this_house, .ref a_this_law_stack, .int v_this_law_height, .int v_this_law_gate, .int v_this_law_kin, .int v_this_law_town, .int v_this_law_season, .long v_this_law_about])), (a_this_law_stack, .inl (cJ, 50, .inr (.inl v_this_law_stack))), (a_this_paid, .inl (cJ, 100, .inr (.inl v_this_paid)))]) (st := []) (c_X8_get l D cI cJ cZ cH a_this_house_debts a_this_house_debts_cells 280 v_this_house_debts_cells (40 : Int32) v_this_house_debts_rows (7 : Int32) p0 (3 : Int32) hc_1) gzX2_29 rfl rfl rfl eV_X8_get ⟨Nat.le_of_ble_eq_true rfl, Nat.le_of_ble_eq_true rfl⟩ rfl 4 rfl rfl [4, 5] rfl rfl rfl rfl rfl (Nat.le_of_ble_eq_true rfl) (Nat.le_refl _) (Nat.le_refl _) rfl dX2_left_11 ?_
  refine ii_istore (lv' := [(4, .int c_1), (3, .ref a_this_house_debts), (0, .ref a_this), (1, .int p0), (2, .int p1)]) dX2_left_14 (by decide) rfl ?_
  refine ii_iload_n 4 dX2_left_16 rfl ?_
  refine ii_iload 0 dX2_left_17 rfl ?_
  refine ii_icmp_ge (tgt := 24) h dX2_left_19 (by decide) (fun h => ?_) (fun h => ?_)
  · skip
    refine ii_aload_n 2 dX2_left_24 rfl ?_
    refine ii_get (C := RX2) (T := TX2) (N := 3) (ci := 2) izX2 0 rfl rfl 0 (by decide) kX2_15 rfl dX2_left_25 ?_
    refine ii_aload_n 1 dX2_left_28 rfl ?_
    refine ii_iload_n 3 dX2_left_29 rfl ?_
    refine ii_iconst dX2_left_30 kc0 ?_
    obtain ⟨c_2, hc_2, h⟩ := bnd h
    refine ii_callVi (As := [.int p0, .int (0 : Int32)]) (ws' := [(a_this, .inr (2, [.ref a_this_house, .ref a_this_law, .ref a_this_paid])), (a_this_house, .inr (0, [.ref a_this_house_merchants, .ref a_this_house_texts, .ref a_this_house_acts, .ref a_this_house_debts, .ref a_this_house_payments, .ref a_this_house_purses, .ref a_this_house_gates, .ref a_this_house_stones, .ref a_this_house_told, .ref a_this_house_letters, .ref a_this_house_mentions, .ref a_this_house_loads, .ref a_this_house_prices, .int v_this_house_narrow, .int v_this_house_names])), (a_this_house_acts, .inr (8, [.int (104 : Int32), .int (16 : Int32), .ref a_this_house_acts_cells, .int v_this_house_acts_rows])), (a_this_house_acts_cells, .inl (cI, 1664, .inl v_this_house_acts_cells)), (a_this_house_debts, .inr (8, [.int (7 : Int32), .int (40 : Int32), .ref a_this_house_debts_cells, .int v_this_house_debts_rows])), (a_this_house_debts_cells, .inl (cI, 280, .inl v_this_house_debts_cells)), (a_this_house_merchants, .inr (8, [.int (2 : Int32), .int (10 : Int32), .ref a_this_house_merchants_cells, .int v_this_house_merchants_rows])), (a_this_house_merchants_cells, .inl (cI, 20, .inl v_this_house_merchants_cells)), (a_this_house_payments, .inr (8, [.int (3 : Int32), .int (60 : Int32), .ref a_this_house_payments_cells, .int v_this_house_payments_rows])), (a_this_house_payments_cells, .inl (cI, 180, .inl v_this_house_payments_cells)), (a_this_law, .inr (1, [.ref a_this_house, .ref a_this_law_stack, .int v_this_law_height, .int v_this_law_gate, .int v_this_law_kin, .int v_this_law_town, .int v_this_law_season, .long v_this_law_about])), (a_this_law_stack, .inl (cJ, 50, .inr (.inl v_this_law_stack))), (a_this_paid, .inl (cJ, 100, .inr (.inl v_this_paid)))]) (st := [.ref a_this_house]) (c_X8_get l D cI cJ cZ cH a_this_house_debts a_this_house_debts_cells 280 v_this_house_debts_cells (40 : Int32) v_this_house_debts_rows (7 : Int32) p0 (0 : Int32) hc_2) gzX2_29 rfl rfl rfl eV_X8_get ⟨Nat.le_of_ble_eq_true rfl, Nat.le_of_ble_eq_true rfl⟩ rfl 4 rfl rfl [4, 5] rfl rfl rfl rfl rfl (Nat.le_of_ble_eq_true rfl) (Nat.le_refl _) (Nat.le_refl _) rfl dX2_left_31 ?_
    refine ii_aload_n 1 dX2_left_34 rfl ?_
    refine ii_iload_n 3 dX2_left_35 rfl ?_
    refine ii_iconst dX2_left_36 kc1 ?_
    obtain ⟨c_3, hc_3, h⟩ := bnd h
    refine ii_callVi (As := [.int p0, .int (1 : Int32)]) (ws' := [(a_this, .inr (2, [.ref a_this_house, .ref a_this_law, .ref a_this_paid])), (a_this_house, .inr (0, [.ref a_this_house_merchants, .ref a_this_house_texts, .ref a_this_house_acts, .ref a_this_house_debts, .ref a_this_house_payments, .ref a_this_house_purses, .ref a_this_house_gates, .ref a_this_house_stones, .ref a_this_house_told, .ref a_this_house_letters, .ref a_this_house_mentions, .ref a_this_house_loads, .ref a_this_house_prices, .int v_this_house_narrow, .int v_this_house_names])), (a_this_house_acts, .inr (8, [.int (104 : Int32), .int (16 : Int32), .ref a_this_house_acts_cells, .int v_this_house_acts_rows])), (a_this_house_acts_cells, .inl (cI, 1664, .inl v_this_house_acts_cells)), (a_this_house_debts, .inr (8, [.int (7 : Int32), .int (40 : Int32), .ref a_this_house_debts_cells, .int v_this_house_debts_rows])), (a_this_house_debts_cells, .inl (cI, 280, .inl v_this_house_debts_cells)), (a_this_house_merchants, .inr (8, [.int (2 : Int32), .int (10 : Int32), .ref a_this_house_merchants_cells, .int v_this_house_merchants_rows])), (a_this_house_merchants_cells, .inl (cI, 20, .inl v_this_house_merchants_cells)), (a_this_house_payments, .inr (8, [.int (3 : Int32), .int (60 : Int32), .ref a_this_house_payments_cells, .int v_this_house_payments_rows])), (a_this_house_payments_cells, .inl (cI, 180, .inl v_this_house_payments_cells)), (a_this_law, .inr (1, [.ref a_this_house, .ref a_this_law_stack, .int v_this_law_height, .int v_this_law_gate, .int v_this_law_kin, .int v_this_law_town, .int v_this_law_season, .long v_this_law_about])), (a_this_law_stack, .inl (cJ, 50, .inr (.inl v_this_law_stack))), (a_this_paid, .inl (cJ, 100, .inr (.inl v_this_paid)))]) (st := [.int c_2, .ref a_this_house]) (c_X8_get l D cI cJ cZ cH a_this_house_debts a_this_house_debts_cells 280 v_this_house_debts_cells (40 : Int32) v_this_house_debts_rows (7 : Int32) p0 (1 : Int32) hc_3) gzX2_29 rfl rfl rfl eV_X8_get ⟨Nat.le_of_ble_eq_true rfl, Nat.le_of_ble_eq_true rfl⟩ rfl 4 rfl rfl [4, 5] rfl rfl rfl rfl rfl (Nat.le_of_ble_eq_true rfl) (Nat.le_refl _) (Nat.le_refl _) rfl dX2_left_37 ?_
    obtain ⟨c_4, hc_4, h⟩ := bnd h
    refine ii_callVi (As := [.int c_2, .int c_3]) (ws' := [(a_this, .inr (2, [.ref a_this_house, .ref a_this_law, .ref a_this_paid])), (a_this_house, .inr (0, [.ref a_this_house_merchants, .ref a_this_house_texts, .ref a_this_house_acts, .ref a_this_house_debts, .ref a_this_house_payments, .ref a_this_house_purses, .ref a_this_house_gates, .ref a_this_house_stones, .ref a_this_house_told, .ref a_this_house_letters, .ref a_this_house_mentions, .ref a_this_house_loads, .ref a_this_house_prices, .int v_this_house_narrow, .int v_this_house_names])), (a_this_house_acts, .inr (8, [.int (104 : Int32), .int (16 : Int32), .ref a_this_house_acts_cells, .int v_this_house_acts_rows])), (a_this_house_acts_cells, .inl (cI, 1664, .inl v_this_house_acts_cells)), (a_this_house_debts, .inr (8, [.int (7 : Int32), .int (40 : Int32), .ref a_this_house_debts_cells, .int v_this_house_debts_rows])), (a_this_house_debts_cells, .inl (cI, 280, .inl v_this_house_debts_cells)), (a_this_house_merchants, .inr (8, [.int (2 : Int32), .int (10 : Int32), .ref a_this_house_merchants_cells, .int v_this_house_merchants_rows])), (a_this_house_merchants_cells, .inl (cI, 20, .inl v_this_house_merchants_cells)), (a_this_house_payments, .inr (8, [.int (3 : Int32), .int (60 : Int32), .ref a_this_house_payments_cells, .int v_this_house_payments_rows])), (a_this_house_payments_cells, .inl (cI, 180, .inl v_this_house_payments_cells)), (a_this_law, .inr (1, [.ref a_this_house, .ref a_this_law_stack, .int v_this_law_height, .int v_this_law_gate, .int v_this_law_kin, .int v_this_law_town, .int v_this_law_season, .long v_this_law_about])), (a_this_law_stack, .inl (cJ, 50, .inr (.inl v_this_law_stack))), (a_this_paid, .inl (cJ, 100, .inr (.inl v_this_paid)))]) (st := []) (c_X0_kin l D cI cJ cZ cH a_this_house a_this_house_acts a_this_house_debts a_this_house_gates a_this_house_letters a_this_house_loads a_this_house_mentions a_this_house_merchants a_this_house_merchants_cells a_this_house_payments a_this_house_prices a_this_house_purses a_this_house_stones a_this_house_texts a_this_house_told v_this_house_merchants_cells v_this_house_merchants_rows v_this_house_names v_this_house_narrow c_2 c_3 hc_4) gzX2_35 rfl rfl rfl eV_X0_kin ⟨Nat.le_of_ble_eq_true rfl, Nat.le_of_ble_eq_true rfl⟩ rfl 1 rfl rfl [1, 6, 7] rfl rfl rfl rfl rfl (Nat.le_of_ble_eq_true rfl) (Nat.le_refl _) (Nat.le_refl _) rfl dX2_left_40 ?_
    refine ii_istore (lv' := [(5, .int c_4), (4, .int c_1), (3, .ref a_this_house_debts), (0, .ref a_this), (1, .int p0), (2, .int p1)]) dX2_left_43 (by decide) rfl ?_
    refine ii_aload_n 3 dX2_left_45 rfl ?_
    refine ii_get (C := RX2) (T := TX2) (N := 3) (ci := 2) izX2 0 rfl rfl 0 (by decide) kX2_15 rfl dX2_left_46 ?_
    refine ii_get (C := RX0) (T := TX0) (N := 15) (ci := 0) izX0 1 rfl rfl 0 (by decide) kX2_38 rfl dX2_left_49 ?_
    refine ii_aload_n 2 dX2_left_52 rfl ?_
    refine ii_iload_n 4 dX2_left_53 rfl ?_
    refine ii_iconst dX2_left_54 kc1 ?_
    obtain ⟨c_5, hc_5, h⟩ := bnd h
    refine ii_callVi (As := [.int p0, .int (1 : Int32)]) (ws' := [(a_this, .inr (2, [.ref a_this_house, .ref a_this_law, .ref a_this_paid])), (a_this_house, .inr (0, [.ref a_this_house_merchants, .ref a_this_house_texts, .ref a_this_house_acts, .ref a_this_house_debts, .ref a_this_house_payments, .ref a_this_house_purses, .ref a_this_house_gates, .ref a_this_house_stones, .ref a_this_house_told, .ref a_this_house_letters, .ref a_this_house_mentions, .ref a_this_house_loads, .ref a_this_house_prices, .int v_this_house_narrow, .int v_this_house_names])), (a_this_house_acts, .inr (8, [.int (104 : Int32), .int (16 : Int32), .ref a_this_house_acts_cells, .int v_this_house_acts_rows])), (a_this_house_acts_cells, .inl (cI, 1664, .inl v_this_house_acts_cells)), (a_this_house_debts, .inr (8, [.int (7 : Int32), .int (40 : Int32), .ref a_this_house_debts_cells, .int v_this_house_debts_rows])), (a_this_house_debts_cells, .inl (cI, 280, .inl v_this_house_debts_cells)), (a_this_house_merchants, .inr (8, [.int (2 : Int32), .int (10 : Int32), .ref a_this_house_merchants_cells, .int v_this_house_merchants_rows])), (a_this_house_merchants_cells, .inl (cI, 20, .inl v_this_house_merchants_cells)), (a_this_house_payments, .inr (8, [.int (3 : Int32), .int (60 : Int32), .ref a_this_house_payments_cells, .int v_this_house_payments_rows])), (a_this_house_payments_cells, .inl (cI, 180, .inl v_this_house_payments_cells)), (a_this_law, .inr (1, [.ref a_this_house, .ref a_this_law_stack, .int v_this_law_height, .int v_this_law_gate, .int v_this_law_kin, .int v_this_law_town, .int v_this_law_season, .long v_this_law_about])), (a_this_law_stack, .inl (cJ, 50, .inr (.inl v_this_law_stack))), (a_this_paid, .inl (cJ, 100, .inr (.inl v_this_paid)))]) (st := [.ref a_this_house_merchants]) (c_X8_get l D cI cJ cZ cH a_this_house_debts a_this_house_debts_cells 280 v_this_house_debts_cells (40 : Int32) v_this_house_debts_rows (7 : Int32) p0 (1 : Int32) hc_5) gzX2_29 rfl rfl rfl eV_X8_get ⟨Nat.le_of_ble_eq_true rfl, Nat.le_of_ble_eq_true rfl⟩ rfl 4 rfl rfl [4, 5] rfl rfl rfl rfl rfl (Nat.le_of_ble_eq_true rfl) (Nat.le_refl _) (Nat.le_refl _) rfl dX2_left_55 ?_
    refine ii_iconst dX2_left_58 kc1 ?_
    obtain ⟨c_6, hc_6, h⟩ := bnd h
    refine ii_callVi (As := [.int c_5, .int (1 : Int32)]) (ws' := [(a_this, .inr (2, [.ref a_this_house, .ref a_this_law, .ref a_this_paid])), (a_this_house, .inr (0, [.ref a_this_house_merchants, .ref a_this_house_texts, .ref a_this_house_acts, .ref a_this_house_debts, .ref a_this_house_payments, .ref a_this_house_purses, .ref a_this_house_gates, .ref a_this_house_stones, .ref a_this_house_told, .ref a_this_house_letters, .ref a_this_house_mentions, .ref a_this_house_loads, .ref a_this_house_prices, .int v_this_house_narrow, .int v_this_house_names])), (a_this_house_acts, .inr (8, [.int (104 : Int32), .int (16 : Int32), .ref a_this_house_acts_cells, .int v_this_house_acts_rows])), (a_this_house_acts_cells, .inl (cI, 1664, .inl v_this_house_acts_cells)), (a_this_house_debts, .inr (8, [.int (7 : Int32), .int (40 : Int32), .ref a_this_house_debts_cells, .int v_this_house_debts_rows])), (a_this_house_debts_cells, .inl (cI, 280, .inl v_this_house_debts_cells)), (a_this_house_merchants, .inr (8, [.int (2 : Int32), .int (10 : Int32), .ref a_this_house_merchants_cells, .int v_this_house_merchants_rows])), (a_this_house_merchants_cells, .inl (cI, 20, .inl v_this_house_merchants_cells)), (a_this_house_payments, .inr (8, [.int (3 : Int32), .int (60 : Int32), .ref a_this_house_payments_cells, .int v_this_house_payments_rows])), (a_this_house_payments_cells, .inl (cI, 180, .inl v_this_house_payments_cells)), (a_this_law, .inr (1, [.ref a_this_house, .ref a_this_law_stack, .int v_this_law_height, .int v_this_law_gate, .int v_this_law_kin, .int v_this_law_town, .int v_this_law_season, .long v_this_law_about])), (a_this_law_stack, .inl (cJ, 50, .inr (.inl v_this_law_stack))), (a_this_paid, .inl (cJ, 100, .inr (.inl v_this_paid)))]) (st := []) (c_X8_get l D cI cJ cZ cH a_this_house_merchants a_this_house_merchants_cells 20 v_this_house_merchants_cells (10 : Int32) v_this_house_merchants_rows (2 : Int32) c_5 (1 : Int32) hc_6) gzX2_29 rfl rfl rfl eV_X8_get ⟨Nat.le_of_ble_eq_true rfl, Nat.le_of_ble_eq_true rfl⟩ rfl 6 rfl rfl [6, 7] rfl rfl rfl rfl rfl (Nat.le_of_ble_eq_true rfl) (Nat.le_refl _) (Nat.le_refl _) rfl dX2_left_59 ?_
    refine ii_istore (lv' := [(6, .int c_6), (5, .int c_4), (4, .int c_1), (3, .ref a_this_house_debts), (0, .ref a_this), (1, .int p0), (2, .int p1)]) dX2_left_62 (by decide) rfl ?_
    refine ii_aload_n 3 dX2_left_64 rfl ?_
    refine ii_iload_n 5 dX2_left_65 rfl ?_
    refine ii_iconst dX2_left_66 kc4 ?_
    obtain ⟨c_7, hc_7, h⟩ := bnd h
    refine ii_callVi (As := [.int p0, .int (4 : Int32)]) (ws' := [(a_this, .inr (2, [.ref a_this_house, .ref a_this_law, .ref a_this_paid])), (a_this_house, .inr (0, [.ref a_this_house_merchants, .ref a_this_house_texts, .ref a_this_house_acts, .ref a_this_house_debts, .ref a_this_house_payments, .ref a_this_house_purses, .ref a_this_house_gates, .ref a_this_house_stones, .ref a_this_house_told, .ref a_this_house_letters, .ref a_this_house_mentions, .ref a_this_house_loads, .ref a_this_house_prices, .int v_this_house_narrow, .int v_this_house_names])), (a_this_house_acts, .inr (8, [.int (104 : Int32), .int (16 : Int32), .ref a_this_house_acts_cells, .int v_this_house_acts_rows])), (a_this_house_acts_cells, .inl (cI, 1664, .inl v_this_house_acts_cells)), (a_this_house_debts, .inr (8, [.int (7 : Int32), .int (40 : Int32), .ref a_this_house_debts_cells, .int v_this_house_debts_rows])), (a_this_house_debts_cells, .inl (cI, 280, .inl v_this_house_debts_cells)), (a_this_house_merchants, .inr (8, [.int (2 : Int32), .int (10 : Int32), .ref a_this_house_merchants_cells, .int v_this_house_merchants_rows])), (a_this_house_merchants_cells, .inl (cI, 20, .inl v_this_house_merchants_cells)), (a_this_house_payments, .inr (8, [.int (3 : Int32), .int (60 : Int32), .ref a_this_house_payments_cells, .int v_this_house_payments_rows])), (a_this_house_payments_cells, .inl (cI, 180, .inl v_this_house_payments_cells)), (a_this_law, .inr (1, [.ref a_this_house, .ref a_this_law_stack, .int v_this_law_height, .int v_this_law_gate, .int v_this_law_kin, .int v_this_law_town, .int v_this_law_season, .long v_this_law_about])), (a_this_law_stack, .inl (cJ, 50, .inr (.inl v_this_law_stack))), (a_this_paid, .inl (cJ, 100, .inr (.inl v_this_paid)))]) (st := []) (c_X8_get l D cI cJ cZ cH a_this_house_debts a_this_house_debts_cells 280 v_this_house_debts_cells (40 : Int32) v_this_house_debts_rows (7 : Int32) p0 (4 : Int32) hc_7) gzX2_29 rfl rfl rfl eV_X8_get ⟨Nat.le_of_ble_eq_true rfl, Nat.le_of_ble_eq_true rfl⟩ rfl 4 rfl rfl [4, 5] rfl rfl rfl rfl rfl (Nat.le_of_ble_eq_true rfl) (Nat.le_refl _) (Nat.le_refl _) rfl dX2_left_67 ?_
    refine ii_istore (lv' := [(7, .int c_7), (6, .int c_6), (5, .int c_4), (4, .int c_1), (3, .ref a_this_house_debts), (0, .ref a_this), (1, .int p0), (2, .int p1)]) dX2_left_70 (by decide) rfl ?_
    refine ii_aload_n 5 dX2_left_72 rfl ?_
    refine ii_iload_n 6 dX2_left_73 rfl ?_
    obtain ⟨c_8, hc_8, h⟩ := bnd h
    refine ii_callVv (As := [.int p0]) (ws' := [(a_this, .inr (2, [.ref a_this_house, .ref a_this_law, .ref a_this_paid])), (a_this_house, .inr (0, [.ref a_this_house_merchants, .ref a_this_house_texts, .ref a_this_house_acts, .ref a_this_house_debts, .ref a_this_house_payments, .ref a_this_house_purses, .ref a_this_house_gates, .ref a_this_house_stones, .ref a_this_house_told, .ref a_this_house_letters, .ref a_this_house_mentions, .ref a_this_house_loads, .ref a_this_house_prices, .int v_this_house_narrow, .int v_this_house_names])), (a_this_house_acts, .inr (8, [.int (104 : Int32), .int (16 : Int32), .ref a_this_house_acts_cells, .int v_this_house_acts_rows])), (a_this_house_acts_cells, .inl (cI, 1664, .inl v_this_house_acts_cells)), (a_this_house_debts, .inr (8, [.int (7 : Int32), .int (40 : Int32), .ref a_this_house_debts_cells, .int v_this_house_debts_rows])), (a_this_house_debts_cells, .inl (cI, 280, .inl v_this_house_debts_cells)), (a_this_house_merchants, .inr (8, [.int (2 : Int32), .int (10 : Int32), .ref a_this_house_merchants_cells, .int v_this_house_merchants_rows])), (a_this_house_merchants_cells, .inl (cI, 20, .inl v_this_house_merchants_cells)), (a_this_house_payments, .inr (8, [.int (3 : Int32), .int (60 : Int32), .ref a_this_house_payments_cells, .int v_this_house_payments_rows])), (a_this_house_payments_cells, .inl (cI, 180, .inl v_this_house_payments_cells)), (a_this_law, .inr (1, [.ref a_this_house, .ref a_this_law_stack, .int v_this_law_height, .int v_this_law_gate, .int v_this_law_kin, .int v_this_law_town, .int v_this_law_season, .long v_this_law_about])), (a_this_law_stack, .inl (cJ, 50, .inr (.inl v_this_law_stack))), (a_this_paid, .inl (cJ, 100, .inr (.inl c_8)))]) (st := []) (c_X2_gather l D cI cJ cZ cH a_this a_this_house a_this_house_acts a_this_house_debts a_this_house_gates a_this_house_letters a_this_house_loads a_this_house_mentions a_this_house_merchants a_this_house_payments a_this_house_payments_cells a_this_house_prices a_this_house_purses a_this_house_stones a_this_house_texts a_this_house_told a_this_law a_this_paid v_this_house_names v_this_house_narrow v_this_house_payments_cells v_this_house_payments_rows v_this_paid p0 hc_8) gzX2_41 rfl rfl rfl eV_X2_gather ⟨Nat.le_of_ble_eq_true rfl, Nat.le_of_ble_eq_true rfl⟩ rfl 0 rfl rfl [0, 1, 8, 9, 12] rfl rfl rfl rfl rfl (Nat.le_of_ble_eq_true rfl) (Nat.le_refl _) (Nat.le_refl _) rfl dX2_left_74 ?_
    refine ii_aload_n 5 dX2_left_77 rfl ?_
    refine ii_iload_n 6 dX2_left_78 rfl ?_
    refine ii_iload_n 7 dX2_left_79 rfl ?_
    obtain ⟨c_9, hc_9, h⟩ := bnd h
    refine ii_callVl (As := [.int p0, .int p1]) (ws' := [(a_this, .inr (2, [.ref a_this_house, .ref a_this_law, .ref a_this_paid])), (a_this_house, .inr (0, [.ref a_this_house_merchants, .ref a_this_house_texts, .ref a_this_house_acts, .ref a_this_house_debts, .ref a_this_house_payments, .ref a_this_house_purses, .ref a_this_house_gates, .ref a_this_house_stones, .ref a_this_house_told, .ref a_this_house_letters, .ref a_this_house_mentions, .ref a_this_house_loads, .ref a_this_house_prices, .int v_this_house_narrow, .int v_this_house_names])), (a_this_house_acts, .inr (8, [.int (104 : Int32), .int (16 : Int32), .ref a_this_house_acts_cells, .int v_this_house_acts_rows])), (a_this_house_acts_cells, .inl (cI, 1664, .inl v_this_house_acts_cells)), (a_this_house_debts, .inr (8, [.int (7 : Int32), .int (40 : Int32), .ref a_this_house_debts_cells, .int v_this_house_debts_rows])), (a_this_house_debts_cells, .inl (cI, 280, .inl v_this_house_debts_cells)), (a_this_house_merchants, .inr (8, [.int (2 : Int32), .int (10 : Int32), .ref a_this_house_merchants_cells, .int v_this_house_merchants_rows])), (a_this_house_merchants_cells, .inl (cI, 20, .inl v_this_house_merchants_cells)), (a_this_house_payments, .inr (8, [.int (3 : Int32), .int (60 : Int32), .ref a_this_house_payments_cells, .int v_this_house_payments_rows])), (a_this_house_payments_cells, .inl (cI, 180, .inl v_this_house_payments_cells)), (a_this_law, .inr (1, [.ref a_this_house, .ref a_this_law_stack, .int v_this_law_height, .int v_this_law_gate, .int v_this_law_kin, .int v_this_law_town, .int v_this_law_season, .long v_this_law_about])), (a_this_law_stack, .inl (cJ, 50, .inr (.inl v_this_law_stack))), (a_this_paid, .inl (cJ, 100, .inr (.inl c_8)))]) (st := []) (c_X2_sumLent l D cI cJ cZ cH a_this a_this_house a_this_house_acts a_this_house_debts a_this_house_debts_cells a_this_house_gates a_this_house_letters a_this_house_loads a_this_house_mentions a_this_house_merchants a_this_house_payments a_this_house_prices a_this_house_purses a_this_house_stones a_this_house_texts a_this_house_told a_this_law a_this_paid v_this_house_debts_cells v_this_house_debts_rows v_this_house_names v_this_house_narrow p0 p1 hc_9) gzX2_45 rfl rfl rfl eV_X2_sumLent ⟨Nat.le_of_ble_eq_true rfl, Nat.le_of_ble_eq_true rfl⟩ rfl 0 rfl rfl [0, 1, 4, 5] rfl rfl rfl rfl rfl (Nat.le_of_ble_eq_true rfl) (Nat.le_refl _) (Nat.le_refl _) rfl dX2_left_80 ?_
    refine ii_lstore (lv' := [(8, .long c_9), (7, .int c_7), (6, .int c_6), (5, .int c_4), (4, .int c_1), (3, .ref a_this_house_debts), (0, .ref a_this), (1, .int p0), (2, .int p1)]) dX2_left_83 (by decide) rfl ?_
    refine ii_iconst dX2_left_85 kc0 ?_
    refine ii_iload 4 dX2_left_86 rfl ?_
    refine ii_mmax mX2_49 ms_max mi_Math mc_max (Nat.le_of_ble_eq_true rfl) (Nat.le_of_ble_eq_true rfl) (Nat.le_refl _) (Nat.le_refl _) dX2_left_88 ?_
    refine ii_topI h (fun x_10 h => ?_)
    refine ii_istore (lv' := [(10, .int x_10), (8, .long c_9), (7, .int c_7), (6, .int c_6), (5, .int c_4), (4, .int c_1), (3, .ref a_this_house_debts), (0, .ref a_this), (1, .int p0), (2, .int p1)]) dX2_left_91 (by decide) rfl ?_
    refine ii_lv [7, 9, 4, 3, 2, 1, 0] rfl ?_
    obtain ⟨x_12, hl_11, h⟩ := bnd h
    refine ii_loopX (fun s_11 => [(a_this, .inr (2, [.ref a_this_house, .ref a_this_law, .ref a_this_paid])), (a_this_house, .inr (0, [.ref a_this_house_merchants, .ref a_this_house_texts, .ref a_this_house_acts, .ref a_this_house_debts, .ref a_this_house_payments, .ref a_this_house_purses, .ref a_this_house_gates, .ref a_this_house_stones, .ref a_this_house_told, .ref a_this_house_letters, .ref a_this_house_mentions, .ref a_this_house_loads, .ref a_this_house_prices, .int v_this_house_narrow, .int v_this_house_names])), (a_this_house_acts, .inr (8, [.int (104 : Int32), .int (16 : Int32), .ref a_this_house_acts_cells, .int v_this_house_acts_rows])), (a_this_house_acts_cells, .inl (cI, 1664, .inl v_this_house_acts_cells)), (a_this_house_debts, .inr (8, [.int (7 : Int32), .int (40 : Int32), .ref a_this_house_debts_cells, .int v_this_house_debts_rows])), (a_this_house_debts_cells, .inl (cI, 280, .inl v_this_house_debts_cells)), (a_this_house_merchants, .inr (8, [.int (2 : Int32), .int (10 : Int32), .ref a_this_house_merchants_cells, .int v_this_house_merchants_rows])), (a_this_house_merchants_cells, .inl (cI, 20, .inl v_this_house_merchants_cells)), (a_this_house_payments, .inr (8, [.int (3 : Int32), .int (60 : Int32), .ref a_this_house_payments_cells, .int v_this_house_payments_rows])), (a_this_house_payments_cells, .inl (cI, 180, .inl v_this_house_payments_cells)), (a_this_law, .inr (1, [.ref a_this_house, .ref a_this_law_stack, .int s_11.2.2.2.2.1, .int s_11.2.2.2.1, .int s_11.2.2.2.2.2.1, .int s_11.2.2.2.2.2.2.2.2, .int s_11.2.2.2.2.2.2.1, .long s_11.2.2.1])), (a_this_law_stack, .inl (cJ, 50, .inr (.inl s_11.2.2.2.2.2.2.2.1))), (a_this_paid, .inl (cJ, 100, .inr (.inl c_8)))]) (fun s_11 => [(0, .ref a_this), (2, .int p1), (5, .int c_4), (6, .int c_6), (7, .int c_7), (8, .long s_11.1), (10, .int s_11.2.1)]) (fun x_12 => [(a_this, .inr (2, [.ref a_this_house, .ref a_this_law, .ref a_this_paid])), (a_this_house, .inr (0, [.ref a_this_house_merchants, .ref a_this_house_texts, .ref a_this_house_acts, .ref a_this_house_debts, .ref a_this_house_payments, .ref a_this_house_purses, .ref a_this_house_gates, .ref a_this_house_stones, .ref a_this_house_told, .ref a_this_house_letters, .ref a_this_house_mentions, .ref a_this_house_loads, .ref a_this_house_prices, .int v_this_house_narrow, .int v_this_house_names])), (a_this_house_acts, .inr (8, [.int (104 : Int32), .int (16 : Int32), .ref a_this_house_acts_cells, .int v_this_house_acts_rows])), (a_this_house_acts_cells, .inl (cI, 1664, .inl v_this_house_acts_cells)), (a_this_house_debts, .inr (8, [.int (7 : Int32), .int (40 : Int32), .ref a_this_house_debts_cells, .int v_this_house_debts_rows])), (a_this_house_debts_cells, .inl (cI, 280, .inl v_this_house_debts_cells)), (a_this_house_merchants, .inr (8, [.int (2 : Int32), .int (10 : Int32), .ref a_this_house_merchants_cells, .int v_this_house_merchants_rows])), (a_this_house_merchants_cells, .inl (cI, 20, .inl v_this_house_merchants_cells)), (a_this_house_payments, .inr (8, [.int (3 : Int32), .int (60 : Int32), .ref a_this_house_payments_cells, .int v_this_house_payments_rows])), (a_this_house_payments_cells, .inl (cI, 180, .inl v_this_house_payments_cells)), (a_this_law, .inr (1, [.ref a_this_house, .ref a_this_law_stack, .int x_12.2.2.2.2.1, .int x_12.2.2.2.1, .int x_12.2.2.2.2.2.1, .int x_12.2.2.2.2.2.2.2.2, .int x_12.2.2.2.2.2.2.1, .long x_12.2.2.1])), (a_this_law_stack, .inl (cJ, 50, .inr (.inl x_12.2.2.2.2.2.2.2.1))), (a_this_paid, .inl (cJ, 100, .inr (.inl c_8)))]) (fun x_12 => [(8, .long x_12.1)]) 192 hl_11 rfl rfl ?_ (fun s_11 o h hb_11 hr_11 hx_11 => ?_)
    · skip
      refine ii_lload 0 dX2_left_192 rfl ?_
      cases h
      exact hQ _ _ dX2_left_194
    · skip
      refine ii_iload 6 dX2_left_93 rfl ?_
      refine ii_iload_n 1 dX2_left_95 rfl ?_
      refine ii_icmp_gt (tgt := 192) h dX2_left_96 (by decide) (fun h => ?_) (fun h => ?_)
      · skip
        refine ii_lv [5] rfl ?_
        cases h
        exact hx_11 (s_11.1, s_11.2.1, s_11.2.2.1, s_11.2.2.2.1, s_11.2.2.2.2.1, s_11.2.2.2.2.2.1, s_11.2.2.2.2.2.2.1, s_11.2.2.2.2.2.2.2.1, s_11.2.2.2.2.2.2.2.2) (hr_11 _ rfl)
      · skip
        refine ii_iload 6 dX2_left_99 rfl ?_
        refine ii_aload_n 0 dX2_left_101 rfl ?_
        refine ii_get (C := RX2) (T := TX2) (N := 3) (ci := 2) izX2 0 rfl rfl 2 (by decide) kX2_9 rfl dX2_left_102 ?_
        refine ii_alen (v := (100 : Int32)) 12 1 rfl rfl rfl dX2_left_105 ?_
        refine ii_icmp_ge (tgt := 192) h dX2_left_106 (by decide) (fun h => ?_) (fun h => ?_)
        · skip
          refine ii_lv [5] rfl ?_
          cases h
          exact hx_11 (s_11.1, s_11.2.1, s_11.2.2.1, s_11.2.2.2.1, s_11.2.2.2.2.1, s_11.2.2.2.2.2.1, s_11.2.2.2.2.2.2.1, s_11.2.2.2.2.2.2.2.1, s_11.2.2.2.2.2.2.2.2) (hr_11 _ rfl)
        · skip
          refine ii_lload 5 dX2_left_109 rfl ?_
          refine ii_lconst dX2_left_111 kl0 ?_
          refine ii_lcmp_le (tgt := 192) h dX2_left_112 dX2_left_113 (by decide) (fun h => ?_) (fun h => ?_)
          · skip
            refine ii_lv [5] rfl ?_
            cases h
            exact hx_11 (s_11.1, s_11.2.1, s_11.2.2.1, s_11.2.2.2.1, s_11.2.2.2.2.1, s_11.2.2.2.2.2.1, s_11.2.2.2.2.2.2.1, s_11.2.2.2.2.2.2.2.1, s_11.2.2.2.2.2.2.2.2) (hr_11 _ rfl)
          · skip
            refine ii_lload 5 dX2_left_116 rfl ?_
            refine ii_lload 5 dX2_left_118 rfl ?_
            refine ii_aload_n 0 dX2_left_120 rfl ?_
            refine ii_get (C := RX2) (T := TX2) (N := 3) (ci := 2) izX2 0 rfl rfl 2 (by decide) kX2_9 rfl dX2_left_121 ?_
            refine ii_iload 6 dX2_left_124 rfl ?_
            refine ii_lald h 12 1 rfl rfl dX2_left_126 (fun t_13 h => ?_)
            refine ii_mminL mX2_54 ms_min_long mi_Math mc_min_long (Nat.le_of_ble_eq_true rfl) (Nat.le_of_ble_eq_true rfl) (Nat.le_refl _) (Nat.le_refl _) dX2_left_127 ?_
            refine ii_lsub dX2_left_130 ?_
            refine ii_topL h (fun x_14 h => ?_)
            refine ii_lstore (lv' := [(8, .long x_14), (0, .ref a_this), (2, .int p1), (5, .int c_4), (6, .int c_6), (7, .int c_7), (10, .int s_11.2.1)]) dX2_left_131 (by decide) rfl ?_
            refine ii_iload 6 dX2_left_133 rfl ?_
            refine ii_iload 5 dX2_left_135 rfl ?_
            refine ii_jn h (fun j_15 => [(a_this, .inr (2, [.ref a_this_house, .ref a_this_law, .ref a_this_paid])), (a_this_house, .inr (0, [.ref a_this_house_merchants, .ref a_this_house_texts, .ref a_this_house_acts, .ref a_this_house_debts, .ref a_this_house_payments, .ref a_this_house_purses, .ref a_this_house_gates, .ref a_this_house_stones, .ref a_this_house_told, .ref a_this_house_letters, .ref a_this_house_mentions, .ref a_this_house_loads, .ref a_this_house_prices, .int v_this_house_narrow, .int v_this_house_names])), (a_this_house_acts, .inr (8, [.int (104 : Int32), .int (16 : Int32), .ref a_this_house_acts_cells, .int v_this_house_acts_rows])), (a_this_house_acts_cells, .inl (cI, 1664, .inl v_this_house_acts_cells)), (a_this_house_debts, .inr (8, [.int (7 : Int32), .int (40 : Int32), .ref a_this_house_debts_cells, .int v_this_house_debts_rows])), (a_this_house_debts_cells, .inl (cI, 280, .inl v_this_house_debts_cells)), (a_this_house_merchants, .inr (8, [.int (2 : Int32), .int (10 : Int32), .ref a_this_house_merchants_cells, .int v_this_house_merchants_rows])), (a_this_house_merchants_cells, .inl (cI, 20, .inl v_this_house_merchants_cells)), (a_this_house_payments, .inr (8, [.int (3 : Int32), .int (60 : Int32), .ref a_this_house_payments_cells, .int v_this_house_payments_rows])), (a_this_house_payments_cells, .inl (cI, 180, .inl v_this_house_payments_cells)), (a_this_law, .inr (1, [.ref a_this_house, .ref a_this_law_stack, .int j_15.2.2.2.1, .int j_15.2.2.1, .int j_15.2.2.2.2.1, .int j_15.2.2.2.2.2.2.2, .int j_15.2.2.2.2.2.1, .long j_15.2.1])), (a_this_law_stack, .inl (cJ, 50, .inr (.inl j_15.2.2.2.2.2.2.1))), (a_this_paid, .inl (cJ, 100, .inr (.inl c_8)))]) (fun j_15 => [(0, .ref a_this), (2, .int p1), (5, .int c_4), (6, .int c_6), (7, .int c_7), (8, .long j_15.1), (10, .int s_11.2.1)]) 186 (fun j_15 => []) (fun j_15 h => ?_) (fun j_15 h hjj_15 => ?_)
            · skip
              refine ii_iinc (fun x_19 => [(10, .int x_19), (0, .ref a_this), (2, .int p1), (5, .int c_4), (6, .int c_6), (7, .int c_7), (8, .long j_15.1)]) h 6 dX2_left_186 rfl kc1 (by decide) (fun _ => rfl) (fun x_19 h => ?_)
              refine ii_goto (tgt := 93) dX2_left_189 (by decide) ?_
              refine ii_lv [1, 2, 3, 4, 5, 6, 0] rfl ?_
              cases h
              exact hb_11 (j_15.1, x_19, j_15.2.1, j_15.2.2.1, j_15.2.2.2.1, j_15.2.2.2.2.1, j_15.2.2.2.2.2.1, j_15.2.2.2.2.2.2.1, j_15.2.2.2.2.2.2.2) rfl
            · skip
              refine ii_icmp_le (tgt := 186) h dX2_left_137 (by decide) (fun h => ?_) (fun h => ?_)
              · skip
                refine ii_lv [1, 2, 3, 4, 5, 0, 6] rfl ?_
                cases h
                exact hjj_15
              · skip
                refine ii_lload 0 dX2_left_140 rfl ?_
                refine ii_lconst dX2_left_142 kl0 ?_
                refine ii_lcmp_le (tgt := 186) h dX2_left_143 dX2_left_144 (by decide) (fun h => ?_) (fun h => ?_)
                · skip
                  refine ii_lv [1, 2, 3, 4, 5, 0, 6] rfl ?_
                  cases h
                  exact hjj_15
                · skip
                  refine ii_aload_n 1 dX2_left_147 rfl ?_
                  refine ii_get (C := RX2) (T := TX2) (N := 3) (ci := 2) izX2 0 rfl rfl 1 (by decide) kX2_19 rfl dX2_left_148 ?_
                  refine ii_iconst dX2_left_151 kc1 ?_
                  refine ii_iload 6 dX2_left_152 rfl ?_
                  refine ii_iconst dX2_left_154 kc0 ?_
                  refine ii_iload 3 dX2_left_155 rfl ?_
                  refine ii_iload 4 dX2_left_157 rfl ?_
                  refine ii_lload 0 dX2_left_159 rfl ?_
                  obtain ⟨c_16, hc_16, h⟩ := bnd h
                  refine ii_callVl (As := [.int (1 : Int32), .int s_11.2.1, .int (0 : Int32), .int c_4, .int c_6, .long x_14]) (ws' := [(a_this, .inr (2, [.ref a_this_house, .ref a_this_law, .ref a_this_paid])), (a_this_house, .inr (0, [.ref a_this_house_merchants, .ref a_this_house_texts, .ref a_this_house_acts, .ref a_this_house_debts, .ref a_this_house_payments, .ref a_this_house_purses, .ref a_this_house_gates, .ref a_this_house_stones, .ref a_this_house_told, .ref a_this_house_letters, .ref a_this_house_mentions, .ref a_this_house_loads, .ref a_this_house_prices, .int v_this_house_narrow, .int v_this_house_names])), (a_this_house_acts, .inr (8, [.int (104 : Int32), .int (16 : Int32), .ref a_this_house_acts_cells, .int v_this_house_acts_rows])), (a_this_house_acts_cells, .inl (cI, 1664, .inl v_this_house_acts_cells)), (a_this_house_debts, .inr (8, [.int (7 : Int32), .int (40 : Int32), .ref a_this_house_debts_cells, .int v_this_house_debts_rows])), (a_this_house_debts_cells, .inl (cI, 280, .inl v_this_house_debts_cells)), (a_this_house_merchants, .inr (8, [.int (2 : Int32), .int (10 : Int32), .ref a_this_house_merchants_cells, .int v_this_house_merchants_rows])), (a_this_house_merchants_cells, .inl (cI, 20, .inl v_this_house_merchants_cells)), (a_this_house_payments, .inr (8, [.int (3 : Int32), .int (60 : Int32), .ref a_this_house_payments_cells, .int v_this_house_payments_rows])), (a_this_house_payments_cells, .inl (cI, 180, .inl v_this_house_payments_cells)), (a_this_law, .inr (1, [.ref a_this_house, .ref a_this_law_stack, .int c_16.2.2.2.1, .int c_16.2.2.1, .int c_16.2.2.2.2.1, .int c_16.2.2.2.2.2.2.2, .int c_16.2.2.2.2.2.1, .long c_16.2.1])), (a_this_law_stack, .inl (cJ, 50, .inr (.inl c_16.2.2.2.2.2.2.1))), (a_this_paid, .inl (cJ, 100, .inr (.inl c_8)))]) (st := []) (c_X1_said l D cI cJ cZ cH a_this_law a_this_house a_this_house_acts a_this_house_acts_cells a_this_house_debts a_this_house_gates a_this_house_letters a_this_house_loads a_this_house_mentions a_this_house_merchants a_this_house_payments a_this_house_prices a_this_house_purses a_this_house_stones a_this_house_texts a_this_house_told a_this_law_stack s_11.2.2.1 s_11.2.2.2.1 s_11.2.2.2.2.1 v_this_house_acts_cells v_this_house_acts_rows v_this_house_names v_this_house_narrow s_11.2.2.2.2.2.1 s_11.2.2.2.2.2.2.1 s_11.2.2.2.2.2.2.2.1 s_11.2.2.2.2.2.2.2.2 (1 : Int32) s_11.2.1 (0 : Int32) c_4 c_6 x_14 hc_16) gzX2_58 rfl rfl rfl eV_X1_said ⟨Nat.le_of_ble_eq_true rfl, Nat.le_of_ble_eq_true rfl⟩ rfl 10 rfl rfl [10, 1, 2, 3, 11] rfl rfl rfl rfl rfl (Nat.le_of_ble_eq_true rfl) (Nat.le_refl _) (Nat.le_refl _) rfl dX2_left_161 ?_
                  refine ii_lstore (lv' := [(11, .long c_16.1), (8, .long x_14), (0, .ref a_this), (2, .int p1), (5, .int c_4), (6, .int c_6), (7, .int c_7), (10, .int s_11.2.1)]) dX2_left_164 (by decide) rfl ?_
                  refine ii_ldc2 (v := 1000000000000) dX2_left_166 kX2_64 ?_
                  refine ii_lload 1 dX2_left_169 rfl ?_
                  refine ii_lload 1 dX2_left_171 rfl ?_
                  refine ii_lload 0 dX2_left_173 rfl ?_
                  refine ii_lmul dX2_left_175 ?_
                  refine ii_ldc2 (v := 1000) dX2_left_176 kX2_66 ?_
                  refine ii_ldiv h dX2_left_179 (fun t_17 h => ?_)
                  refine ii_ladd dX2_left_180 ?_
                  refine ii_mminL mX2_54 ms_min_long mi_Math mc_min_long (Nat.le_of_ble_eq_true rfl) (Nat.le_of_ble_eq_true rfl) (Nat.le_refl _) (Nat.le_refl _) dX2_left_181 ?_
                  refine ii_topL h (fun x_18 h => ?_)
                  refine ii_lstore (lv' := [(8, .long x_18), (11, .long c_16.1), (0, .ref a_this), (2, .int p1), (5, .int c_4), (6, .int c_6), (7, .int c_7), (10, .int s_11.2.1)]) dX2_left_184 (by decide) rfl ?_
                  refine ii_lv [2, 3, 4, 5, 6, 0, 7] rfl ?_
                  cases h
                  exact hjj_15
  · skip
    refine ii_lconst dX2_left_22 kl0 ?_
    cases h
    exact hQ _ _ dX2_left_23
set_option maxHeartbeats 4000000 in
set_option maxRecDepth 100000 in
theorem c_X2_sharesOfAll (l : Launch) (D : va_G) (cI cJ cZ cH : ClassId) (a_this a_this_house a_this_house_acts a_this_house_debts a_this_house_gates a_this_house_letters a_this_house_loads a_this_house_mentions a_this_house_merchants a_this_house_merchants_cells a_this_house_payments a_this_house_prices a_this_house_purses a_this_house_purses_cells a_this_house_stones a_this_house_texts a_this_house_told a_this_law a_this_paid : Nat) (v_this_house_merchants_rows : Int32) (v_this_house_names : Int32) (v_this_house_narrow : Int32) (v_this_house_purses_cells : Nat → Int32) (v_this_house_purses_rows : Int32) (p0 : Int32) {res : Int32} (h : F_X2_sharesOfAll v_this_house_merchants_rows v_this_house_purses_cells v_this_house_purses_rows p0 = some res) : CTi l yX2_sharesOfAll wzX2_sharesOfAll { frames := 2, cells := 0, slots := 0, locals := 46 } D [(cI, .int), (cJ, .long), (cZ, .boolean), (cH, .object "TinHouse$House")] [.ref a_this, .int p0] [(a_this, .inr (2, [.ref a_this_house, .ref a_this_law, .ref a_this_paid])), (a_this_house, .inr (0, [.ref a_this_house_merchants, .ref a_this_house_texts, .ref a_this_house_acts, .ref a_this_house_debts, .ref a_this_house_payments, .ref a_this_house_purses, .ref a_this_house_gates, .ref a_this_house_stones, .ref a_this_house_told, .ref a_this_house_letters, .ref a_this_house_mentions, .ref a_this_house_loads, .ref a_this_house_prices, .int v_this_house_narrow, .int v_this_house_names])), (a_this_house_merchants, .inr (8, [.int (2 : Int32), .int (10 : Int32), .ref a_this_house_merchants_cells, .int v_this_house_merchants_rows])), (a_this_house_purses, .inr (8, [.int (13 : Int32), .int (3 : Int32), .ref a_this_house_purses_cells, .int v_this_house_purses_rows])), (a_this_house_purses_cells, .inl (cI, 39, .inl v_this_house_purses_cells))] res [(a_this, .inr (2, [.ref a_this_house, .ref a_this_law, .ref a_this_paid])), (a_this_house, .inr (0, [.ref a_this_house_merchants, .ref a_this_house_texts, .ref a_this_house_acts, .ref a_this_house_debts, .ref a_this_house_payments, .ref a_this_house_purses, .ref a_this_house_gates, .ref a_this_house_stones, .ref a_this_house_told, .ref a_this_house_letters, .ref a_this_house_mentions, .ref a_this_house_loads, .ref a_this_house_prices, .int v_this_house_narrow, .int v_this_house_names])), (a_this_house_merchants, .inr (8, [.int (2 : Int32), .int (10 : Int32), .ref a_this_house_merchants_cells, .int v_this_house_merchants_rows])), (a_this_house_purses, .inr (8, [.int (13 : Int32), .int (3 : Int32), .ref a_this_house_purses_cells, .int v_this_house_purses_rows])), (a_this_house_purses_cells, .inl (cI, 39, .inl v_this_house_purses_cells))] := by
  unfold F_X2_sharesOfAll at h
  refine ii_metI (own := RX2) (lv0 := [(0, .ref a_this), (1, .int p0)]) (by decide) rfl rfl rfl (Nat.le_of_ble_eq_true rfl) (fun {p e s m args below meth c A Q} hQ => ?_)
  refine ii_iconst dX2_sharesOfAll_0 kc0 ?_
  refine ii_istore_n (lv' := [(2, .int (0 : Int32)), (0, .ref a_this), (1, .int p0)]) dX2_sharesOfAll_1 rfl (by decide) rfl ?_
  refine ii_iconst dX2_sharesOfAll_2 kc0 ?_
  refine ii_istore_n (lv' := [(3, .int (0 : Int32)), (2, .int (0 : Int32)), (0, .ref a_this), (1, .int p0)]) dX2_sharesOfAll_3 rfl (by decide) rfl ?_
  refine ii_lv [2, 3, 1, 0] rfl ?_
  obtain ⟨x_2, hl_1, h⟩ := bnd h
  refine ii_loopX (fun s_1 => [(a_this, .inr (2, [.ref a_this_house, .ref a_this_law, .ref a_this_paid])), (a_this_house, .inr (0, [.ref a_this_house_merchants, .ref a_this_house_texts, .ref a_this_house_acts, .ref a_this_house_debts, .ref a_this_house_payments, .ref a_this_house_purses, .ref a_this_house_gates, .ref a_this_house_stones, .ref a_this_house_told, .ref a_this_house_letters, .ref a_this_house_mentions, .ref a_this_house_loads, .ref a_this_house_prices, .int v_this_house_narrow, .int v_this_house_names])), (a_this_house_merchants, .inr (8, [.int (2 : Int32), .int (10 : Int32), .ref a_this_house_merchants_cells, .int v_this_house_merchants_rows])), (a_this_house_purses, .inr (8, [.int (13 : Int32), .int (3 : Int32), .ref a_this_house_purses_cells, .int v_this_house_purses_rows])), (a_this_house_purses_cells, .inl (cI, 39, .inl v_this_house_purses_cells))]) (fun s_1 => [(0, .ref a_this), (1, .int p0), (2, .int s_1.1), (3, .int s_1.2)]) (fun x_2 => [(a_this, .inr (2, [.ref a_this_house, .ref a_this_law, .ref a_this_paid])), (a_this_house, .inr (0, [.ref a_this_house_merchants, .ref a_this_house_texts, .ref a_this_house_acts, .ref a_this_house_debts, .ref a_this_house_payments, .ref a_this_house_purses, .ref a_this_house_gates, .ref a_this_house_stones, .ref a_this_house_told, .ref a_this_house_letters, .ref a_this_house_mentions, .ref a_this_house_loads, .ref a_this_house_prices, .int v_this_house_narrow, .int v_this_house_names])), (a_this_house_merchants, .inr (8, [.int (2 : Int32), .int (10 : Int32), .ref a_this_house_merchants_cells, .int v_this_house_merchants_rows])), (a_this_house_purses, .inr (8, [.int (13 : Int32), .int (3 : Int32), .ref a_this_house_purses_cells, .int v_this_house_purses_rows])), (a_this_house_purses_cells, .inl (cI, 39, .inl v_this_house_purses_cells))]) (fun x_2 => [(2, .int x_2.1)]) 41 hl_1 rfl rfl ?_ (fun s_1 o h hb_1 hr_1 hx_1 => ?_)
  · skip
    refine ii_iload_n 0 dX2_sharesOfAll_41 rfl ?_
    cases h
    exact hQ _ _ dX2_sharesOfAll_42
  · skip
    refine ii_iload_n 3 dX2_sharesOfAll_4 rfl ?_
    refine ii_aload_n 0 dX2_sharesOfAll_5 rfl ?_
    refine ii_get (C := RX2) (T := TX2) (N := 3) (ci := 2) izX2 0 rfl rfl 0 (by decide) kX2_15 rfl dX2_sharesOfAll_6 ?_
    refine ii_get (C := RX0) (T := TX0) (N := 15) (ci := 0) izX0 1 rfl rfl 0 (by decide) kX2_38 rfl dX2_sharesOfAll_9 ?_
    refine ii_get (C := RX8) (T := TX8) (N := 4) (ci := 8) izX8 2 rfl rfl 3 (by decide) kX2_77 rfl dX2_sharesOfAll_12 ?_
    refine ii_icmp_ge (tgt := 41) h dX2_sharesOfAll_15 (by decide) (fun h => ?_) (fun h => ?_)
    · skip
      refine ii_lv [2] rfl ?_
      cases h
      exact hx_1 (s_1.1, s_1.2) (hr_1 _ rfl)
    · skip
      refine ii_iload_n 2 dX2_sharesOfAll_18 rfl ?_
      refine ii_aload_n 0 dX2_sharesOfAll_19 rfl ?_
      refine ii_get (C := RX2) (T := TX2) (N := 3) (ci := 2) izX2 0 rfl rfl 0 (by decide) kX2_15 rfl dX2_sharesOfAll_20 ?_
      refine ii_get (C := RX0) (T := TX0) (N := 15) (ci := 0) izX0 1 rfl rfl 5 (by decide) kX2_81 rfl dX2_sharesOfAll_23 ?_
      refine ii_iload_n 1 dX2_sharesOfAll_26 rfl ?_
      refine ii_iconst dX2_sharesOfAll_27 kc3 ?_
      refine ii_iload_n 3 dX2_sharesOfAll_28 rfl ?_
      refine ii_iadd dX2_sharesOfAll_29 ?_
      obtain ⟨c_3, hc_3, h⟩ := bnd h
      refine ii_callVi (As := [.int p0, .int ((3 : Int32) + s_1.2)]) (ws' := [(a_this, .inr (2, [.ref a_this_house, .ref a_this_law, .ref a_this_paid])), (a_this_house, .inr (0, [.ref a_this_house_merchants, .ref a_this_house_texts, .ref a_this_house_acts, .ref a_this_house_debts, .ref a_this_house_payments, .ref a_this_house_purses, .ref a_this_house_gates, .ref a_this_house_stones, .ref a_this_house_told, .ref a_this_house_letters, .ref a_this_house_mentions, .ref a_this_house_loads, .ref a_this_house_prices, .int v_this_house_narrow, .int v_this_house_names])), (a_this_house_merchants, .inr (8, [.int (2 : Int32), .int (10 : Int32), .ref a_this_house_merchants_cells, .int v_this_house_merchants_rows])), (a_this_house_purses, .inr (8, [.int (13 : Int32), .int (3 : Int32), .ref a_this_house_purses_cells, .int v_this_house_purses_rows])), (a_this_house_purses_cells, .inl (cI, 39, .inl v_this_house_purses_cells))]) (st := [.int s_1.1]) (c_X8_get l D cI cJ cZ cH a_this_house_purses a_this_house_purses_cells 39 v_this_house_purses_cells (3 : Int32) v_this_house_purses_rows (13 : Int32) p0 ((3 : Int32) + s_1.2) hc_3) gzX2_29 rfl rfl rfl eV_X8_get ⟨Nat.le_of_ble_eq_true rfl, Nat.le_of_ble_eq_true rfl⟩ rfl 3 rfl rfl [3, 4] rfl rfl rfl rfl rfl (Nat.le_of_ble_eq_true rfl) (Nat.le_refl _) (Nat.le_refl _) rfl dX2_sharesOfAll_30 ?_
      refine ii_iadd dX2_sharesOfAll_33 ?_
      refine ii_topI h (fun x_4 h => ?_)
      refine ii_istore_n (lv' := [(2, .int x_4), (0, .ref a_this), (1, .int p0), (3, .int s_1.2)]) dX2_sharesOfAll_34 rfl (by decide) rfl ?_
      refine ii_iinc (fun x_5 => [(3, .int x_5), (2, .int x_4), (0, .ref a_this), (1, .int p0)]) h 3 dX2_sharesOfAll_35 rfl kc1 (by decide) (fun _ => rfl) (fun x_5 h => ?_)
      refine ii_goto (tgt := 4) dX2_sharesOfAll_38 (by decide) ?_
      refine ii_lv [2, 3, 1, 0] rfl ?_
      cases h
      exact hb_1 (x_4, x_5) rfl
set_option maxHeartbeats 4000000 in
set_option maxRecDepth 100000 in
theorem c_X2_takenBy (l : Launch) (D : va_G) (cI cJ cZ cH : ClassId) (a_this a_this_house a_this_house_acts a_this_house_acts_cells a_this_house_debts a_this_house_gates a_this_house_letters a_this_house_loads a_this_house_mentions a_this_house_merchants a_this_house_merchants_cells a_this_house_payments a_this_house_prices a_this_house_purses a_this_house_purses_cells a_this_house_stones a_this_house_texts a_this_house_told a_this_law a_this_law_stack a_this_paid : Nat) (v_this_house_acts_cells : Nat → Int32) (v_this_house_acts_rows : Int32) (v_this_house_merchants_cells : Nat → Int32) (v_this_house_merchants_rows : Int32) (v_this_house_names : Int32) (v_this_house_narrow : Int32) (v_this_house_purses_cells : Nat → Int32) (v_this_house_purses_rows : Int32) (v_this_law_about : Int64) (v_this_law_gate : Int32) (v_this_law_height : Int32) (v_this_law_kin : Int32) (v_this_law_season : Int32) (v_this_law_stack : Nat → Int64) (v_this_law_town : Int32) (p0 : Int32) (p1 : Int32) (p2 : Int32) {res : Int32 × Int64 × Int32 × Int32 × Int32 × Int32 × (Nat → Int64) × Int32} (h : F_X2_takenBy v_this_house_acts_cells v_this_house_acts_rows v_this_house_merchants_cells v_this_house_merchants_rows v_this_house_purses_cells v_this_house_purses_rows v_this_law_about v_this_law_gate v_this_law_height v_this_law_kin v_this_law_season v_this_law_stack v_this_law_town p0 p1 p2 = some res) : CTi l yX2_takenBy wzX2_takenBy { frames := 4, cells := 0, slots := 0, locals := 107 } D [(cI, .int), (cJ, .long), (cZ, .boolean), (cH, .object "TinHouse$House")] [.ref a_this, .int p0, .int p1, .int p2] [(a_this, .inr (2, [.ref a_this_house, .ref a_this_law, .ref a_this_paid])), (a_this_house, .inr (0, [.ref a_this_house_merchants, .ref a_this_house_texts, .ref a_this_house_acts, .ref a_this_house_debts, .ref a_this_house_payments, .ref a_this_house_purses, .ref a_this_house_gates, .ref a_this_house_stones, .ref a_this_house_told, .ref a_this_house_letters, .ref a_this_house_mentions, .ref a_this_house_loads, .ref a_this_house_prices, .int v_this_house_narrow, .int v_this_house_names])), (a_this_house_acts, .inr (8, [.int (104 : Int32), .int (16 : Int32), .ref a_this_house_acts_cells, .int v_this_house_acts_rows])), (a_this_house_acts_cells, .inl (cI, 1664, .inl v_this_house_acts_cells)), (a_this_house_merchants, .inr (8, [.int (2 : Int32), .int (10 : Int32), .ref a_this_house_merchants_cells, .int v_this_house_merchants_rows])), (a_this_house_merchants_cells, .inl (cI, 20, .inl v_this_house_merchants_cells)), (a_this_house_purses, .inr (8, [.int (13 : Int32), .int (3 : Int32), .ref a_this_house_purses_cells, .int v_this_house_purses_rows])), (a_this_house_purses_cells, .inl (cI, 39, .inl v_this_house_purses_cells)), (a_this_law, .inr (1, [.ref a_this_house, .ref a_this_law_stack, .int v_this_law_height, .int v_this_law_gate, .int v_this_law_kin, .int v_this_law_town, .int v_this_law_season, .long v_this_law_about])), (a_this_law_stack, .inl (cJ, 50, .inr (.inl v_this_law_stack)))] res.1 [(a_this, .inr (2, [.ref a_this_house, .ref a_this_law, .ref a_this_paid])), (a_this_house, .inr (0, [.ref a_this_house_merchants, .ref a_this_house_texts, .ref a_this_house_acts, .ref a_this_house_debts, .ref a_this_house_payments, .ref a_this_house_purses, .ref a_this_house_gates, .ref a_this_house_stones, .ref a_this_house_told, .ref a_this_house_letters, .ref a_this_house_mentions, .ref a_this_house_loads, .ref a_this_house_prices, .int v_this_house_narrow, .int v_this_house_names])), (a_this_house_acts, .inr (8, [.int (104 : Int32), .int (16 : Int32), .ref a_this_house_acts_cells, .int v_this_house_acts_rows])), (a_this_house_acts_cells, .inl (cI, 1664, .inl v_this_house_acts_cells)), (a_this_house_merchants, .inr (8, [.int (2 : Int32), .int (10 : Int32), .ref a_this_house_merchants_cells, .int v_this_house_merchants_rows])), (a_this_house_merchants_cells, .inl (cI, 20, .inl v_this_house_merchants_cells)), (a_this_house_purses, .inr (8, [.int (13 : Int32), .int (3 : Int32), .ref a_this_house_purses_cells, .int v_this_house_purses_rows])), (a_this_house_purses_cells, .inl (cI, 39, .inl v_this_house_purses_cells)), (a_this_law, .inr (1, [.ref a_this_house, .ref a_this_law_stack, .int res.2.2.2.1, .int res.2.2.1, .int res.2.2.2.2.1, .int res.2.2.2.2.2.2.2, .int res.2.2.2.2.2.1, .long res.2.1])), (a_this_law_stack, .inl (cJ, 50, .inr (.inl res.2.2.2.2.2.2.1)))] := by
  unfold F_X2_takenBy at h
  refine ii_metI (own := RX2) (lv0 := [(0, .ref a_this), (1, .int p0), (2, .int p1), (3, .int p2)]) (by decide) rfl rfl rfl (Nat.le_of_ble_eq_true rfl) (fun {p e s m args below meth c A Q} hQ => ?_)
  refine ii_aload_n 0 dX2_takenBy_0 rfl ?_
  refine ii_get (C := RX2) (T := TX2) (N := 3) (ci := 2) izX2 0 rfl rfl 0 (by decide) kX2_15 rfl dX2_takenBy_1 ?_
  refine ii_get (C := RX0) (T := TX0) (N := 15) (ci := 0) izX0 1 rfl rfl 5 (by decide) kX2_81 rfl dX2_takenBy_4 ?_
  refine ii_iload_n 1 dX2_takenBy_7 rfl ?_
  refine ii_iconst dX2_takenBy_8 kc3 ?_
  refine ii_iload_n 2 dX2_takenBy_9 rfl ?_
  refine ii_iadd dX2_takenBy_10 ?_
  obtain ⟨c_1, hc_1, h⟩ := bnd h
  refine ii_callVi (As := [.int p0, .int ((3 : Int32) + p1)]) (ws' := [(a_this, .inr (2, [.ref a_this_house, .ref a_this_law, .ref a_this_paid])), (a_this_house, .inr (0, [.ref a_this_house_merchants, .ref a_this_house_texts, .ref a_this_house_acts, .ref a_this_house_debts, .ref a_this_house_payments, .ref a_this_house_purses, .ref a_this_house_gates, .ref a_this_house_stones, .ref a_this_house_told, .ref a_this_house_letters, .ref a_this_house_mentions, .ref a_this_house_loads, .ref a_this_house_prices, .int v_this_house_narrow, .int v_this_house_names])), (a_this_house_acts, .inr (8, [.int (104 : Int32), .int (16 : Int32), .ref a_this_house_acts_cells, .int v_this_house_acts_rows])), (a_this_house_acts_cells, .inl (cI, 1664, .inl v_this_house_acts_cells)), (a_this_house_merchants, .inr (8, [.int (2 : Int32), .int (10 : Int32), .ref a_this_house_merchants_cells, .int v_this_house_merchants_rows])), (a_this_house_merchants_cells, .inl (cI, 20, .inl v_this_house_merchants_cells)), (a_this_house_purses, .inr (8, [.int (13 : Int32), .int (3 : Int32), .ref a_this_house_purses_cells, .int v_this_house_purses_rows])), (a_this_house_purses_cells, .inl (cI, 39, .inl v_this_house_purses_cells)), (a_this_law, .inr (1, [.ref a_this_house, .ref a_this_law_stack, .int v_this_law_height, .int v_this_law_gate, .int v_this_law_kin, .int v_this_law_town, .int v_this_law_season, .long v_this_law_about])), (a_this_law_stack, .inl (cJ, 50, .inr (.inl v_this_law_stack)))]) (st := []) (c_X8_get l D cI cJ cZ cH a_this_house_purses a_this_house_purses_cells 39 v_this_house_purses_cells (3 : Int32) v_this_house_purses_rows (13 : Int32) p0 ((3 : Int32) + p1) hc_1) gzX2_29 rfl rfl rfl eV_X8_get ⟨Nat.le_of_ble_eq_true rfl, Nat.le_of_ble_eq_true rfl⟩ rfl 6 rfl rfl [6, 7] rfl rfl rfl rfl rfl (Nat.le_of_ble_eq_true rfl) (Nat.le_refl _) (Nat.le_refl _) rfl dX2_takenBy_11 ?_
  refine ii_i2l dX2_takenBy_14 ?_
  refine ii_aload_n 0 dX2_takenBy_15 rfl ?_
  refine ii_get (C := RX2) (T := TX2) (N := 3) (ci := 2) izX2 0 rfl rfl 0 (by decide) kX2_15 rfl dX2_takenBy_16 ?_
  refine ii_get (C := RX0) (T := TX0) (N := 15) (ci := 0) izX0 1 rfl rfl 5 (by decide) kX2_81 rfl dX2_takenBy_19 ?_
  refine ii_iload_n 1 dX2_takenBy_22 rfl ?_
  refine ii_iconst dX2_takenBy_23 kc2 ?_
  obtain ⟨c_2, hc_2, h⟩ := bnd h
  refine ii_callVi (As := [.int p0, .int (2 : Int32)]) (ws' := [(a_this, .inr (2, [.ref a_this_house, .ref a_this_law, .ref a_this_paid])), (a_this_house, .inr (0, [.ref a_this_house_merchants, .ref a_this_house_texts, .ref a_this_house_acts, .ref a_this_house_debts, .ref a_this_house_payments, .ref a_this_house_purses, .ref a_this_house_gates, .ref a_this_house_stones, .ref a_this_house_told, .ref a_this_house_letters, .ref a_this_house_mentions, .ref a_this_house_loads, .ref a_this_house_prices, .int v_this_house_narrow, .int v_this_house_names])), (a_this_house_acts, .inr (8, [.int (104 : Int32), .int (16 : Int32), .ref a_this_house_acts_cells, .int v_this_house_acts_rows])), (a_this_house_acts_cells, .inl (cI, 1664, .inl v_this_house_acts_cells)), (a_this_house_merchants, .inr (8, [.int (2 : Int32), .int (10 : Int32), .ref a_this_house_merchants_cells, .int v_this_house_merchants_rows])), (a_this_house_merchants_cells, .inl (cI, 20, .inl v_this_house_merchants_cells)), (a_this_house_purses, .inr (8, [.int (13 : Int32), .int (3 : Int32), .ref a_this_house_purses_cells, .int v_this_house_purses_rows])), (a_this_house_purses_cells, .inl (cI, 39, .inl v_this_house_purses_cells)), (a_this_law, .inr (1, [.ref a_this_house, .ref a_this_law_stack, .int v_this_law_height, .int v_this_law_gate, .int v_this_law_kin, .int v_this_law_town, .int v_this_law_season, .long v_this_law_about])), (a_this_law_stack, .inl (cJ, 50, .inr (.inl v_this_law_stack)))]) (st := [.long c_1.toInt64]) (c_X8_get l D cI cJ cZ cH a_this_house_purses a_this_house_purses_cells 39 v_this_house_purses_cells (3 : Int32) v_this_house_purses_rows (13 : Int32) p0 (2 : Int32) hc_2) gzX2_29 rfl rfl rfl eV_X8_get ⟨Nat.le_of_ble_eq_true rfl, Nat.le_of_ble_eq_true rfl⟩ rfl 6 rfl rfl [6, 7] rfl rfl rfl rfl rfl (Nat.le_of_ble_eq_true rfl) (Nat.le_refl _) (Nat.le_refl _) rfl dX2_takenBy_24 ?_
  refine ii_i2l dX2_takenBy_27 ?_
  refine ii_lmul dX2_takenBy_28 ?_
  refine ii_topL h (fun x_3 h => ?_)
  refine ii_lstore (lv' := [(4, .long x_3), (0, .ref a_this), (1, .int p0), (2, .int p1), (3, .int p2)]) dX2_takenBy_29 (by decide) rfl ?_
  refine ii_aload_n 1 dX2_takenBy_31 rfl ?_
  refine ii_get (C := RX2) (T := TX2) (N := 3) (ci := 2) izX2 0 rfl rfl 0 (by decide) kX2_15 rfl dX2_takenBy_32 ?_
  refine ii_iload_n 3 dX2_takenBy_35 rfl ?_
  refine ii_aload_n 1 dX2_takenBy_36 rfl ?_
  refine ii_get (C := RX2) (T := TX2) (N := 3) (ci := 2) izX2 0 rfl rfl 0 (by decide) kX2_15 rfl dX2_takenBy_37 ?_
  refine ii_get (C := RX0) (T := TX0) (N := 15) (ci := 0) izX0 1 rfl rfl 5 (by decide) kX2_81 rfl dX2_takenBy_40 ?_
  refine ii_iload_n 2 dX2_takenBy_43 rfl ?_
  refine ii_iconst dX2_takenBy_44 kc0 ?_
  obtain ⟨c_4, hc_4, h⟩ := bnd h
  refine ii_callVi (As := [.int p0, .int (0 : Int32)]) (ws' := [(a_this, .inr (2, [.ref a_this_house, .ref a_this_law, .ref a_this_paid])), (a_this_house, .inr (0, [.ref a_this_house_merchants, .ref a_this_house_texts, .ref a_this_house_acts, .ref a_this_house_debts, .ref a_this_house_payments, .ref a_this_house_purses, .ref a_this_house_gates, .ref a_this_house_stones, .ref a_this_house_told, .ref a_this_house_letters, .ref a_this_house_mentions, .ref a_this_house_loads, .ref a_this_house_prices, .int v_this_house_narrow, .int v_this_house_names])), (a_this_house_acts, .inr (8, [.int (104 : Int32), .int (16 : Int32), .ref a_this_house_acts_cells, .int v_this_house_acts_rows])), (a_this_house_acts_cells, .inl (cI, 1664, .inl v_this_house_acts_cells)), (a_this_house_merchants, .inr (8, [.int (2 : Int32), .int (10 : Int32), .ref a_this_house_merchants_cells, .int v_this_house_merchants_rows])), (a_this_house_merchants_cells, .inl (cI, 20, .inl v_this_house_merchants_cells)), (a_this_house_purses, .inr (8, [.int (13 : Int32), .int (3 : Int32), .ref a_this_house_purses_cells, .int v_this_house_purses_rows])), (a_this_house_purses_cells, .inl (cI, 39, .inl v_this_house_purses_cells)), (a_this_law, .inr (1, [.ref a_this_house, .ref a_this_law_stack, .int v_this_law_height, .int v_this_law_gate, .int v_this_law_kin, .int v_this_law_town, .int v_this_law_season, .long v_this_law_about])), (a_this_law_stack, .inl (cJ, 50, .inr (.inl v_this_law_stack)))]) (st := [.int p1, .ref a_this_house]) (c_X8_get l D cI cJ cZ cH a_this_house_purses a_this_house_purses_cells 39 v_this_house_purses_cells (3 : Int32) v_this_house_purses_rows (13 : Int32) p0 (0 : Int32) hc_4) gzX2_29 rfl rfl rfl eV_X8_get ⟨Nat.le_of_ble_eq_true rfl, Nat.le_of_ble_eq_true rfl⟩ rfl 6 rfl rfl [6, 7] rfl rfl rfl rfl rfl (Nat.le_of_ble_eq_true rfl) (Nat.le_refl _) (Nat.le_refl _) rfl dX2_takenBy_45 ?_
  obtain ⟨c_5, hc_5, h⟩ := bnd h
  refine ii_callVi (As := [.int p1, .int c_4]) (ws' := [(a_this, .inr (2, [.ref a_this_house, .ref a_this_law, .ref a_this_paid])), (a_this_house, .inr (0, [.ref a_this_house_merchants, .ref a_this_house_texts, .ref a_this_house_acts, .ref a_this_house_debts, .ref a_this_house_payments, .ref a_this_house_purses, .ref a_this_house_gates, .ref a_this_house_stones, .ref a_this_house_told, .ref a_this_house_letters, .ref a_this_house_mentions, .ref a_this_house_loads, .ref a_this_house_prices, .int v_this_house_narrow, .int v_this_house_names])), (a_this_house_acts, .inr (8, [.int (104 : Int32), .int (16 : Int32), .ref a_this_house_acts_cells, .int v_this_house_acts_rows])), (a_this_house_acts_cells, .inl (cI, 1664, .inl v_this_house_acts_cells)), (a_this_house_merchants, .inr (8, [.int (2 : Int32), .int (10 : Int32), .ref a_this_house_merchants_cells, .int v_this_house_merchants_rows])), (a_this_house_merchants_cells, .inl (cI, 20, .inl v_this_house_merchants_cells)), (a_this_house_purses, .inr (8, [.int (13 : Int32), .int (3 : Int32), .ref a_this_house_purses_cells, .int v_this_house_purses_rows])), (a_this_house_purses_cells, .inl (cI, 39, .inl v_this_house_purses_cells)), (a_this_law, .inr (1, [.ref a_this_house, .ref a_this_law_stack, .int v_this_law_height, .int v_this_law_gate, .int v_this_law_kin, .int v_this_law_town, .int v_this_law_season, .long v_this_law_about])), (a_this_law_stack, .inl (cJ, 50, .inr (.inl v_this_law_stack)))]) (st := []) (c_X0_kin l D cI cJ cZ cH a_this_house a_this_house_acts a_this_house_debts a_this_house_gates a_this_house_letters a_this_house_loads a_this_house_mentions a_this_house_merchants a_this_house_merchants_cells a_this_house_payments a_this_house_prices a_this_house_purses a_this_house_stones a_this_house_texts a_this_house_told v_this_house_merchants_cells v_this_house_merchants_rows v_this_house_names v_this_house_narrow p1 c_4 hc_5) gzX2_35 rfl rfl rfl eV_X0_kin ⟨Nat.le_of_ble_eq_true rfl, Nat.le_of_ble_eq_true rfl⟩ rfl 1 rfl rfl [1, 4, 5] rfl rfl rfl rfl rfl (Nat.le_of_ble_eq_true rfl) (Nat.le_refl _) (Nat.le_refl _) rfl dX2_takenBy_48 ?_
  refine ii_istore (lv' := [(6, .int c_5), (4, .long x_3), (0, .ref a_this), (1, .int p0), (2, .int p1), (3, .int p2)]) dX2_takenBy_51 (by decide) rfl ?_
  refine ii_aload_n 2 dX2_takenBy_53 rfl ?_
  refine ii_get (C := RX2) (T := TX2) (N := 3) (ci := 2) izX2 0 rfl rfl 0 (by decide) kX2_15 rfl dX2_takenBy_54 ?_
  refine ii_get (C := RX0) (T := TX0) (N := 15) (ci := 0) izX0 1 rfl rfl 0 (by decide) kX2_38 rfl dX2_takenBy_57 ?_
  refine ii_iload_n 4 dX2_takenBy_60 rfl ?_
  refine ii_iconst dX2_takenBy_61 kc1 ?_
  obtain ⟨c_6, hc_6, h⟩ := bnd h
  refine ii_callVi (As := [.int p1, .int (1 : Int32)]) (ws' := [(a_this, .inr (2, [.ref a_this_house, .ref a_this_law, .ref a_this_paid])), (a_this_house, .inr (0, [.ref a_this_house_merchants, .ref a_this_house_texts, .ref a_this_house_acts, .ref a_this_house_debts, .ref a_this_house_payments, .ref a_this_house_purses, .ref a_this_house_gates, .ref a_this_house_stones, .ref a_this_house_told, .ref a_this_house_letters, .ref a_this_house_mentions, .ref a_this_house_loads, .ref a_this_house_prices, .int v_this_house_narrow, .int v_this_house_names])), (a_this_house_acts, .inr (8, [.int (104 : Int32), .int (16 : Int32), .ref a_this_house_acts_cells, .int v_this_house_acts_rows])), (a_this_house_acts_cells, .inl (cI, 1664, .inl v_this_house_acts_cells)), (a_this_house_merchants, .inr (8, [.int (2 : Int32), .int (10 : Int32), .ref a_this_house_merchants_cells, .int v_this_house_merchants_rows])), (a_this_house_merchants_cells, .inl (cI, 20, .inl v_this_house_merchants_cells)), (a_this_house_purses, .inr (8, [.int (13 : Int32), .int (3 : Int32), .ref a_this_house_purses_cells, .int v_this_house_purses_rows])), (a_this_house_purses_cells, .inl (cI, 39, .inl v_this_house_purses_cells)), (a_this_law, .inr (1, [.ref a_this_house, .ref a_this_law_stack, .int v_this_law_height, .int v_this_law_gate, .int v_this_law_kin, .int v_this_law_town, .int v_this_law_season, .long v_this_law_about])), (a_this_law_stack, .inl (cJ, 50, .inr (.inl v_this_law_stack)))]) (st := []) (c_X8_get l D cI cJ cZ cH a_this_house_merchants a_this_house_merchants_cells 20 v_this_house_merchants_cells (10 : Int32) v_this_house_merchants_rows (2 : Int32) p1 (1 : Int32) hc_6) gzX2_29 rfl rfl rfl eV_X8_get ⟨Nat.le_of_ble_eq_true rfl, Nat.le_of_ble_eq_true rfl⟩ rfl 4 rfl rfl [4, 5] rfl rfl rfl rfl rfl (Nat.le_of_ble_eq_true rfl) (Nat.le_refl _) (Nat.le_refl _) rfl dX2_takenBy_62 ?_
  refine ii_istore (lv' := [(7, .int c_6), (6, .int c_5), (4, .long x_3), (0, .ref a_this), (1, .int p0), (2, .int p1), (3, .int p2)]) dX2_takenBy_65 (by decide) rfl ?_
  refine ii_lload 2 dX2_takenBy_67 rfl ?_
  refine ii_aload_n 3 dX2_takenBy_69 rfl ?_
  refine ii_get (C := RX2) (T := TX2) (N := 3) (ci := 2) izX2 0 rfl rfl 1 (by decide) kX2_19 rfl dX2_takenBy_70 ?_
  refine ii_iconst dX2_takenBy_73 kc2 ?_
  refine ii_iload_n 6 dX2_takenBy_74 rfl ?_
  refine ii_iconst dX2_takenBy_75 kc0 ?_
  refine ii_iload 1 dX2_takenBy_76 rfl ?_
  refine ii_iload 0 dX2_takenBy_78 rfl ?_
  refine ii_lload 2 dX2_takenBy_80 rfl ?_
  obtain ⟨c_7, hc_7, h⟩ := bnd h
  refine ii_callVl (As := [.int (2 : Int32), .int p2, .int (0 : Int32), .int c_5, .int c_6, .long x_3]) (ws' := [(a_this, .inr (2, [.ref a_this_house, .ref a_this_law, .ref a_this_paid])), (a_this_house, .inr (0, [.ref a_this_house_merchants, .ref a_this_house_texts, .ref a_this_house_acts, .ref a_this_house_debts, .ref a_this_house_payments, .ref a_this_house_purses, .ref a_this_house_gates, .ref a_this_house_stones, .ref a_this_house_told, .ref a_this_house_letters, .ref a_this_house_mentions, .ref a_this_house_loads, .ref a_this_house_prices, .int v_this_house_narrow, .int v_this_house_names])), (a_this_house_acts, .inr (8, [.int (104 : Int32), .int (16 : Int32), .ref a_this_house_acts_cells, .int v_this_house_acts_rows])), (a_this_house_acts_cells, .inl (cI, 1664, .inl v_this_house_acts_cells)), (a_this_house_merchants, .inr (8, [.int (2 : Int32), .int (10 : Int32), .ref a_this_house_merchants_cells, .int v_this_house_merchants_rows])), (a_this_house_merchants_cells, .inl (cI, 20, .inl v_this_house_merchants_cells)), (a_this_house_purses, .inr (8, [.int (13 : Int32), .int (3 : Int32), .ref a_this_house_purses_cells, .int v_this_house_purses_rows])), (a_this_house_purses_cells, .inl (cI, 39, .inl v_this_house_purses_cells)), (a_this_law, .inr (1, [.ref a_this_house, .ref a_this_law_stack, .int c_7.2.2.2.1, .int c_7.2.2.1, .int c_7.2.2.2.2.1, .int c_7.2.2.2.2.2.2.2, .int c_7.2.2.2.2.2.1, .long c_7.2.1])), (a_this_law_stack, .inl (cJ, 50, .inr (.inl c_7.2.2.2.2.2.2.1)))]) (st := [.long x_3]) (c_X1_said l D cI cJ cZ cH a_this_law a_this_house a_this_house_acts a_this_house_acts_cells a_this_house_debts a_this_house_gates a_this_house_letters a_this_house_loads a_this_house_mentions a_this_house_merchants a_this_house_payments a_this_house_prices a_this_house_purses a_this_house_stones a_this_house_texts a_this_house_told a_this_law_stack v_this_law_about v_this_law_gate v_this_law_height v_this_house_acts_cells v_this_house_acts_rows v_this_house_names v_this_house_narrow v_this_law_kin v_this_law_season v_this_law_stack v_this_law_town (2 : Int32) p2 (0 : Int32) c_5 c_6 x_3 hc_7) gzX2_58 rfl rfl rfl eV_X1_said ⟨Nat.le_of_ble_eq_true rfl, Nat.le_of_ble_eq_true rfl⟩ rfl 8 rfl rfl [8, 1, 2, 3, 9] rfl rfl rfl rfl rfl (Nat.le_of_ble_eq_true rfl) (Nat.le_refl _) (Nat.le_refl _) rfl dX2_takenBy_82 ?_
  refine ii_lmul dX2_takenBy_85 ?_
  refine ii_ldc2 (v := 100) dX2_takenBy_86 kX2_84 ?_
  refine ii_ldiv h dX2_takenBy_89 (fun t_8 h => ?_)
  refine ii_l2i dX2_takenBy_90 ?_
  cases h
  exact hQ _ _ dX2_takenBy_91
set_option maxHeartbeats 4000000 in
set_option maxRecDepth 100000 in
theorem c_X2_byShares (l : Launch) (D : va_G) (cI cJ cZ cH : ClassId) (a_this a_this_house a_this_house_acts a_this_house_debts a_this_house_gates a_this_house_letters a_this_house_loads a_this_house_mentions a_this_house_merchants a_this_house_payments a_this_house_prices a_this_house_purses a_this_house_purses_cells a_this_house_stones a_this_house_texts a_this_house_told a_this_law a_this_paid : Nat) (v_this_house_names : Int32) (v_this_house_narrow : Int32) (v_this_house_purses_cells : Nat → Int32) (v_this_house_purses_rows : Int32) (p0 : Int32) (p1 : Int32) (p2 : Int32) (p3 : Int32) {res : Int32} (h : F_X2_byShares v_this_house_purses_cells v_this_house_purses_rows p0 p1 p2 p3 = some res) : CTi l yX2_byShares wzX2_byShares { frames := 2, cells := 0, slots := 0, locals := 46 } D [(cI, .int), (cJ, .long), (cZ, .boolean), (cH, .object "TinHouse$House")] [.ref a_this, .int p0, .int p1, .int p2, .int p3] [(a_this, .inr (2, [.ref a_this_house, .ref a_this_law, .ref a_this_paid])), (a_this_house, .inr (0, [.ref a_this_house_merchants, .ref a_this_house_texts, .ref a_this_house_acts, .ref a_this_house_debts, .ref a_this_house_payments, .ref a_this_house_purses, .ref a_this_house_gates, .ref a_this_house_stones, .ref a_this_house_told, .ref a_this_house_letters, .ref a_this_house_mentions, .ref a_this_house_loads, .ref a_this_house_prices, .int v_this_house_narrow, .int v_this_house_names])), (a_this_house_purses, .inr (8, [.int (13 : Int32), .int (3 : Int32), .ref a_this_house_purses_cells, .int v_this_house_purses_rows])), (a_this_house_purses_cells, .inl (cI, 39, .inl v_this_house_purses_cells))] res [(a_this, .inr (2, [.ref a_this_house, .ref a_this_law, .ref a_this_paid])), (a_this_house, .inr (0, [.ref a_this_house_merchants, .ref a_this_house_texts, .ref a_this_house_acts, .ref a_this_house_debts, .ref a_this_house_payments, .ref a_this_house_purses, .ref a_this_house_gates, .ref a_this_house_stones, .ref a_this_house_told, .ref a_this_house_letters, .ref a_this_house_mentions, .ref a_this_house_loads, .ref a_this_house_prices, .int v_this_house_narrow, .int v_this_house_names])), (a_this_house_purses, .inr (8, [.int (13 : Int32), .int (3 : Int32), .ref a_this_house_purses_cells, .int v_this_house_purses_rows])), (a_this_house_purses_cells, .inl (cI, 39, .inl v_this_house_purses_cells))] := by
  unfold F_X2_byShares at h
  refine ii_metI (own := RX2) (lv0 := [(0, .ref a_this), (1, .int p0), (2, .int p1), (3, .int p2), (4, .int p3)]) (by decide) rfl rfl rfl (Nat.le_of_ble_eq_true rfl) (fun {p e s m args below meth c A Q} hQ => ?_)
  refine ii_aload_n 0 dX2_byShares_0 rfl ?_
  refine ii_get (C := RX2) (T := TX2) (N := 3) (ci := 2) izX2 0 rfl rfl 0 (by decide) kX2_15 rfl dX2_byShares_1 ?_
  refine ii_get (C := RX0) (T := TX0) (N := 15) (ci := 0) izX0 1 rfl rfl 5 (by decide) kX2_81 rfl dX2_byShares_4 ?_
  refine ii_iload_n 1 dX2_byShares_7 rfl ?_
  refine ii_iconst dX2_byShares_8 kc3 ?_
  refine ii_iload_n 2 dX2_byShares_9 rfl ?_
  refine ii_iadd dX2_byShares_10 ?_
  obtain ⟨c_1, hc_1, h⟩ := bnd h
  refine ii_callVi (As := [.int p0, .int ((3 : Int32) + p1)]) (ws' := [(a_this, .inr (2, [.ref a_this_house, .ref a_this_law, .ref a_this_paid])), (a_this_house, .inr (0, [.ref a_this_house_merchants, .ref a_this_house_texts, .ref a_this_house_acts, .ref a_this_house_debts, .ref a_this_house_payments, .ref a_this_house_purses, .ref a_this_house_gates, .ref a_this_house_stones, .ref a_this_house_told, .ref a_this_house_letters, .ref a_this_house_mentions, .ref a_this_house_loads, .ref a_this_house_prices, .int v_this_house_narrow, .int v_this_house_names])), (a_this_house_purses, .inr (8, [.int (13 : Int32), .int (3 : Int32), .ref a_this_house_purses_cells, .int v_this_house_purses_rows])), (a_this_house_purses_cells, .inl (cI, 39, .inl v_this_house_purses_cells))]) (st := []) (c_X8_get l D cI cJ cZ cH a_this_house_purses a_this_house_purses_cells 39 v_this_house_purses_cells (3 : Int32) v_this_house_purses_rows (13 : Int32) p0 ((3 : Int32) + p1) hc_1) gzX2_29 rfl rfl rfl eV_X8_get ⟨Nat.le_of_ble_eq_true rfl, Nat.le_of_ble_eq_true rfl⟩ rfl 2 rfl rfl [2, 3] rfl rfl rfl rfl rfl (Nat.le_of_ble_eq_true rfl) (Nat.le_refl _) (Nat.le_refl _) rfl dX2_byShares_11 ?_
  refine ii_i2l dX2_byShares_14 ?_
  refine ii_lstore (lv' := [(5, .long c_1.toInt64), (0, .ref a_this), (1, .int p0), (2, .int p1), (3, .int p2), (4, .int p3)]) dX2_byShares_15 (by decide) rfl ?_
  refine ii_iload 5 dX2_byShares_17 rfl ?_
  refine ii_jn h (fun j_2 => [(a_this, .inr (2, [.ref a_this_house, .ref a_this_law, .ref a_this_paid])), (a_this_house, .inr (0, [.ref a_this_house_merchants, .ref a_this_house_texts, .ref a_this_house_acts, .ref a_this_house_debts, .ref a_this_house_payments, .ref a_this_house_purses, .ref a_this_house_gates, .ref a_this_house_stones, .ref a_this_house_told, .ref a_this_house_letters, .ref a_this_house_mentions, .ref a_this_house_loads, .ref a_this_house_prices, .int v_this_house_narrow, .int v_this_house_names])), (a_this_house_purses, .inr (8, [.int (13 : Int32), .int (3 : Int32), .ref a_this_house_purses_cells, .int v_this_house_purses_rows])), (a_this_house_purses_cells, .inl (cI, 39, .inl v_this_house_purses_cells))]) (fun j_2 => []) 36 (fun j_2 => [.int j_2]) (fun j_2 h => ?_) (fun j_2 h hjj_2 => ?_)
  · skip
    cases h
    exact hQ _ _ dX2_byShares_36
  · skip
    refine ii_if_le (tgt := 35) h dX2_byShares_19 (by decide) (fun h => ?_) (fun h => ?_)
    · skip
      refine ii_iconst dX2_byShares_35 kc0 ?_
      refine ii_lv [] rfl ?_
      cases h
      exact hjj_2
    · skip
      refine ii_iload_n 4 dX2_byShares_22 rfl ?_
      refine ii_i2l dX2_byShares_23 ?_
      refine ii_lload 0 dX2_byShares_24 rfl ?_
      refine ii_lmul dX2_byShares_26 ?_
      refine ii_iload 5 dX2_byShares_27 rfl ?_
      refine ii_i2l dX2_byShares_29 ?_
      refine ii_ldiv h dX2_byShares_30 (fun t_3 h => ?_)
      refine ii_l2i dX2_byShares_31 ?_
      refine ii_goto (tgt := 36) dX2_byShares_32 (by decide) ?_
      refine ii_lv [] rfl ?_
      cases h
      exact hjj_2
set_option maxHeartbeats 4000000 in
set_option maxRecDepth 100000 in
theorem c_X2_partOf (l : Launch) (D : va_G) (cI cJ cZ cH : ClassId) (a_this a_this_house a_this_house_acts a_this_house_debts a_this_house_gates a_this_house_letters a_this_house_loads a_this_house_mentions a_this_house_merchants a_this_house_merchants_cells a_this_house_payments a_this_house_prices a_this_house_purses a_this_house_purses_cells a_this_house_stones a_this_house_texts a_this_house_told a_this_law a_this_paid : Nat) (v_this_house_merchants_rows : Int32) (v_this_house_names : Int32) (v_this_house_narrow : Int32) (v_this_house_purses_cells : Nat → Int32) (v_this_house_purses_rows : Int32) (p0 : Int32) (p1 : Int32) (p2 : Int32) {res : Int32} (h : F_X2_partOf v_this_house_merchants_rows v_this_house_purses_cells v_this_house_purses_rows p0 p1 p2 = some res) : CTi l yX2_partOf wzX2_partOf { frames := 3, cells := 0, slots := 0, locals := 72 } D [(cI, .int), (cJ, .long), (cZ, .boolean), (cH, .object "TinHouse$House")] [.ref a_this, .int p0, .int p1, .int p2] [(a_this, .inr (2, [.ref a_this_house, .ref a_this_law, .ref a_this_paid])), (a_this_house, .inr (0, [.ref a_this_house_merchants, .ref a_this_house_texts, .ref a_this_house_acts, .ref a_this_house_debts, .ref a_this_house_payments, .ref a_this_house_purses, .ref a_this_house_gates, .ref a_this_house_stones, .ref a_this_house_told, .ref a_this_house_letters, .ref a_this_house_mentions, .ref a_this_house_loads, .ref a_this_house_prices, .int v_this_house_narrow, .int v_this_house_names])), (a_this_house_merchants, .inr (8, [.int (2 : Int32), .int (10 : Int32), .ref a_this_house_merchants_cells, .int v_this_house_merchants_rows])), (a_this_house_purses, .inr (8, [.int (13 : Int32), .int (3 : Int32), .ref a_this_house_purses_cells, .int v_this_house_purses_rows])), (a_this_house_purses_cells, .inl (cI, 39, .inl v_this_house_purses_cells))] res [(a_this, .inr (2, [.ref a_this_house, .ref a_this_law, .ref a_this_paid])), (a_this_house, .inr (0, [.ref a_this_house_merchants, .ref a_this_house_texts, .ref a_this_house_acts, .ref a_this_house_debts, .ref a_this_house_payments, .ref a_this_house_purses, .ref a_this_house_gates, .ref a_this_house_stones, .ref a_this_house_told, .ref a_this_house_letters, .ref a_this_house_mentions, .ref a_this_house_loads, .ref a_this_house_prices, .int v_this_house_narrow, .int v_this_house_names])), (a_this_house_merchants, .inr (8, [.int (2 : Int32), .int (10 : Int32), .ref a_this_house_merchants_cells, .int v_this_house_merchants_rows])), (a_this_house_purses, .inr (8, [.int (13 : Int32), .int (3 : Int32), .ref a_this_house_purses_cells, .int v_this_house_purses_rows])), (a_this_house_purses_cells, .inl (cI, 39, .inl v_this_house_purses_cells))] := by
  unfold F_X2_partOf at h
  refine ii_metI (own := RX2) (lv0 := [(0, .ref a_this), (1, .int p0), (2, .int p1), (3, .int p2)]) (by decide) rfl rfl rfl (Nat.le_of_ble_eq_true rfl) (fun {p e s m args below meth c A Q} hQ => ?_)
  refine ii_iload_n 2 dX2_partOf_0 rfl ?_
  refine ii_iconst dX2_partOf_1 kc3 ?_
  refine ii_idiv h dX2_partOf_2 (fun t_1 h => ?_)
  refine ii_istore (lv' := [(4, .int t_1), (0, .ref a_this), (1, .int p0), (2, .int p1), (3, .int p2)]) dX2_partOf_3 (by decide) rfl ?_
  refine ii_iload_n 3 dX2_partOf_5 rfl ?_
  refine ii_iload 0 dX2_partOf_6 rfl ?_
  refine ii_isub dX2_partOf_8 ?_
  refine ii_topI h (fun x_2 h => ?_)
  refine ii_istore (lv' := [(5, .int x_2), (4, .int t_1), (0, .ref a_this), (1, .int p0), (2, .int p1), (3, .int p2)]) dX2_partOf_9 (by decide) rfl ?_
  refine ii_aload_n 2 dX2_partOf_11 rfl ?_
  refine ii_iload_n 3 dX2_partOf_12 rfl ?_
  obtain ⟨c_3, hc_3, h⟩ := bnd h
  refine ii_callVi (As := [.int p0]) (ws' := [(a_this, .inr (2, [.ref a_this_house, .ref a_this_law, .ref a_this_paid])), (a_this_house, .inr (0, [.ref a_this_house_merchants, .ref a_this_house_texts, .ref a_this_house_acts, .ref a_this_house_debts, .ref a_this_house_payments, .ref a_this_house_purses, .ref a_this_house_gates, .ref a_this_house_stones, .ref a_this_house_told, .ref a_this_house_letters, .ref a_this_house_mentions, .ref a_this_house_loads, .ref a_this_house_prices, .int v_this_house_narrow, .int v_this_house_names])), (a_this_house_merchants, .inr (8, [.int (2 : Int32), .int (10 : Int32), .ref a_this_house_merchants_cells, .int v_this_house_merchants_rows])), (a_this_house_purses, .inr (8, [.int (13 : Int32), .int (3 : Int32), .ref a_this_house_purses_cells, .int v_this_house_purses_rows])), (a_this_house_purses_cells, .inl (cI, 39, .inl v_this_house_purses_cells))]) (st := []) (c_X2_sharesOfAll l D cI cJ cZ cH a_this a_this_house a_this_house_acts a_this_house_debts a_this_house_gates a_this_house_letters a_this_house_loads a_this_house_mentions a_this_house_merchants a_this_house_merchants_cells a_this_house_payments a_this_house_prices a_this_house_purses a_this_house_purses_cells a_this_house_stones a_this_house_texts a_this_house_told a_this_law a_this_paid v_this_house_merchants_rows v_this_house_names v_this_house_narrow v_this_house_purses_cells v_this_house_purses_rows p0 hc_3) gzX2_86 rfl rfl rfl eV_X2_sharesOfAll ⟨Nat.le_of_ble_eq_true rfl, Nat.le_of_ble_eq_true rfl⟩ rfl 0 rfl rfl [0, 1, 2, 3, 4] rfl rfl rfl rfl rfl (Nat.le_of_ble_eq_true rfl) (Nat.le_refl _) (Nat.le_refl _) rfl dX2_partOf_13 ?_
  refine ii_istore (lv' := [(6, .int c_3), (5, .int x_2), (4, .int t_1), (0, .ref a_this), (1, .int p0), (2, .int p1), (3, .int p2)]) dX2_partOf_16 (by decide) rfl ?_
  refine ii_aload_n 3 dX2_partOf_18 rfl ?_
  refine ii_iload_n 4 dX2_partOf_19 rfl ?_
  refine ii_iload_n 6 dX2_partOf_20 rfl ?_
  refine ii_iload 1 dX2_partOf_21 rfl ?_
  refine ii_iload 0 dX2_partOf_23 rfl ?_
  obtain ⟨c_4, hc_4, h⟩ := bnd h
  refine ii_callVi (As := [.int p0, .int p2, .int x_2, .int c_3]) (ws' := [(a_this, .inr (2, [.ref a_this_house, .ref a_this_law, .ref a_this_paid])), (a_this_house, .inr (0, [.ref a_this_house_merchants, .ref a_this_house_texts, .ref a_this_house_acts, .ref a_this_house_debts, .ref a_this_house_payments, .ref a_this_house_purses, .ref a_this_house_gates, .ref a_this_house_stones, .ref a_this_house_told, .ref a_this_house_letters, .ref a_this_house_mentions, .ref a_this_house_loads, .ref a_this_house_prices, .int v_this_house_narrow, .int v_this_house_names])), (a_this_house_merchants, .inr (8, [.int (2 : Int32), .int (10 : Int32), .ref a_this_house_merchants_cells, .int v_this_house_merchants_rows])), (a_this_house_purses, .inr (8, [.int (13 : Int32), .int (3 : Int32), .ref a_this_house_purses_cells, .int v_this_house_purses_rows])), (a_this_house_purses_cells, .inl (cI, 39, .inl v_this_house_purses_cells))]) (st := []) (c_X2_byShares l D cI cJ cZ cH a_this a_this_house a_this_house_acts a_this_house_debts a_this_house_gates a_this_house_letters a_this_house_loads a_this_house_mentions a_this_house_merchants a_this_house_payments a_this_house_prices a_this_house_purses a_this_house_purses_cells a_this_house_stones a_this_house_texts a_this_house_told a_this_law a_this_paid v_this_house_names v_this_house_narrow v_this_house_purses_cells v_this_house_purses_rows p0 p2 x_2 c_3 hc_4) gzX2_90 rfl rfl rfl eV_X2_byShares ⟨Nat.le_of_ble_eq_true rfl, Nat.le_of_ble_eq_true rfl⟩ rfl 0 rfl rfl [0, 1, 3, 4] rfl rfl rfl rfl rfl (Nat.le_of_ble_eq_true rfl) (Nat.le_refl _) (Nat.le_refl _) rfl dX2_partOf_25 ?_
  refine ii_istore (lv' := [(7, .int c_4), (6, .int c_3), (5, .int x_2), (4, .int t_1), (0, .ref a_this), (1, .int p0), (2, .int p1), (3, .int p2)]) dX2_partOf_28 (by decide) rfl ?_
  refine ii_iload_n 7 dX2_partOf_30 rfl ?_
  refine ii_aload_n 4 dX2_partOf_31 rfl ?_
  refine ii_get (C := RX2) (T := TX2) (N := 3) (ci := 2) izX2 0 rfl rfl 0 (by decide) kX2_15 rfl dX2_partOf_32 ?_
  refine ii_get (C := RX0) (T := TX0) (N := 15) (ci := 0) izX0 1 rfl rfl 5 (by decide) kX2_81 rfl dX2_partOf_35 ?_
  refine ii_iload_n 5 dX2_partOf_38 rfl ?_
  refine ii_iconst dX2_partOf_39 kc0 ?_
  obtain ⟨c_5, hc_5, h⟩ := bnd h
  refine ii_callVi (As := [.int p0, .int (0 : Int32)]) (ws' := [(a_this, .inr (2, [.ref a_this_house, .ref a_this_law, .ref a_this_paid])), (a_this_house, .inr (0, [.ref a_this_house_merchants, .ref a_this_house_texts, .ref a_this_house_acts, .ref a_this_house_debts, .ref a_this_house_payments, .ref a_this_house_purses, .ref a_this_house_gates, .ref a_this_house_stones, .ref a_this_house_told, .ref a_this_house_letters, .ref a_this_house_mentions, .ref a_this_house_loads, .ref a_this_house_prices, .int v_this_house_narrow, .int v_this_house_names])), (a_this_house_merchants, .inr (8, [.int (2 : Int32), .int (10 : Int32), .ref a_this_house_merchants_cells, .int v_this_house_merchants_rows])), (a_this_house_purses, .inr (8, [.int (13 : Int32), .int (3 : Int32), .ref a_this_house_purses_cells, .int v_this_house_purses_rows])), (a_this_house_purses_cells, .inl (cI, 39, .inl v_this_house_purses_cells))]) (st := [.int p2]) (c_X8_get l D cI cJ cZ cH a_this_house_purses a_this_house_purses_cells 39 v_this_house_purses_cells (3 : Int32) v_this_house_purses_rows (13 : Int32) p0 (0 : Int32) hc_5) gzX2_29 rfl rfl rfl eV_X8_get ⟨Nat.le_of_ble_eq_true rfl, Nat.le_of_ble_eq_true rfl⟩ rfl 3 rfl rfl [3, 4] rfl rfl rfl rfl rfl (Nat.le_of_ble_eq_true rfl) (Nat.le_refl _) (Nat.le_refl _) rfl dX2_partOf_40 ?_
  refine ii_icmp_eq (tgt := 49) h dX2_partOf_43 (by decide) (fun h => ?_) (fun h => ?_)
  · skip
    refine ii_iload 2 dX2_partOf_49 rfl ?_
    refine ii_istore (lv' := [(8, .int x_2), (7, .int c_4), (6, .int c_3), (5, .int x_2), (4, .int t_1), (0, .ref a_this), (1, .int p0), (2, .int p1), (3, .int p2)]) dX2_partOf_51 (by decide) rfl ?_
    refine ii_iconst dX2_partOf_53 kc0 ?_
    refine ii_istore (lv' := [(9, .int (0 : Int32)), (8, .int x_2), (7, .int c_4), (6, .int c_3), (5, .int x_2), (4, .int t_1), (0, .ref a_this), (1, .int p0), (2, .int p1), (3, .int p2)]) dX2_partOf_54 (by decide) rfl ?_
    refine ii_lv [6, 7, 5, 4, 3, 2, 1, 0] rfl ?_
    obtain ⟨x_7, hl_6, h⟩ := bnd h
    refine ii_loopX (fun s_6 => [(a_this, .inr (2, [.ref a_this_house, .ref a_this_law, .ref a_this_paid])), (a_this_house, .inr (0, [.ref a_this_house_merchants, .ref a_this_house_texts, .ref a_this_house_acts, .ref a_this_house_debts, .ref a_this_house_payments, .ref a_this_house_purses, .ref a_this_house_gates, .ref a_this_house_stones, .ref a_this_house_told, .ref a_this_house_letters, .ref a_this_house_mentions, .ref a_this_house_loads, .ref a_this_house_prices, .int v_this_house_narrow, .int v_this_house_names])), (a_this_house_merchants, .inr (8, [.int (2 : Int32), .int (10 : Int32), .ref a_this_house_merchants_cells, .int v_this_house_merchants_rows])), (a_this_house_purses, .inr (8, [.int (13 : Int32), .int (3 : Int32), .ref a_this_house_purses_cells, .int v_this_house_purses_rows])), (a_this_house_purses_cells, .inl (cI, 39, .inl v_this_house_purses_cells))]) (fun s_6 => [(0, .ref a_this), (1, .int p0), (4, .int t_1), (5, .int x_2), (6, .int c_3), (7, .int c_4), (8, .int s_6.1), (9, .int s_6.2)]) (fun x_7 => [(a_this, .inr (2, [.ref a_this_house, .ref a_this_law, .ref a_this_paid])), (a_this_house, .inr (0, [.ref a_this_house_merchants, .ref a_this_house_texts, .ref a_this_house_acts, .ref a_this_house_debts, .ref a_this_house_payments, .ref a_this_house_purses, .ref a_this_house_gates, .ref a_this_house_stones, .ref a_this_house_told, .ref a_this_house_letters, .ref a_this_house_mentions, .ref a_this_house_loads, .ref a_this_house_prices, .int v_this_house_narrow, .int v_this_house_names])), (a_this_house_merchants, .inr (8, [.int (2 : Int32), .int (10 : Int32), .ref a_this_house_merchants_cells, .int v_this_house_merchants_rows])), (a_this_house_purses, .inr (8, [.int (13 : Int32), .int (3 : Int32), .ref a_this_house_purses_cells, .int v_this_house_purses_rows])), (a_this_house_purses_cells, .inl (cI, 39, .inl v_this_house_purses_cells))]) (fun x_7 => [(4, .int t_1), (7, .int c_4), (8, .int x_7.1)]) 93 hl_6 rfl rfl ?_ (fun s_6 o h hb_6 hr_6 hx_6 => ?_)
    · skip
      refine ii_iload 0 dX2_partOf_93 rfl ?_
      refine ii_iload 1 dX2_partOf_95 rfl ?_
      refine ii_iadd dX2_partOf_97 ?_
      refine ii_iload 2 dX2_partOf_98 rfl ?_
      refine ii_iadd dX2_partOf_100 ?_
      cases h
      exact hQ _ _ dX2_partOf_101
    · skip
      refine ii_iload 7 dX2_partOf_56 rfl ?_
      refine ii_aload_n 0 dX2_partOf_58 rfl ?_
      refine ii_get (C := RX2) (T := TX2) (N := 3) (ci := 2) izX2 0 rfl rfl 0 (by decide) kX2_15 rfl dX2_partOf_59 ?_
      refine ii_get (C := RX0) (T := TX0) (N := 15) (ci := 0) izX0 1 rfl rfl 0 (by decide) kX2_38 rfl dX2_partOf_62 ?_
      refine ii_get (C := RX8) (T := TX8) (N := 4) (ci := 8) izX8 2 rfl rfl 3 (by decide) kX2_77 rfl dX2_partOf_65 ?_
      refine ii_icmp_ge (tgt := 93) h dX2_partOf_68 (by decide) (fun h => ?_) (fun h => ?_)
      · skip
        refine ii_lv [2, 5, 6] rfl ?_
        cases h
        exact hx_6 (s_6.1, s_6.2) (hr_6 _ rfl)
      · skip
        refine ii_iload 6 dX2_partOf_71 rfl ?_
        refine ii_aload_n 0 dX2_partOf_73 rfl ?_
        refine ii_iload_n 1 dX2_partOf_74 rfl ?_
        refine ii_iload 7 dX2_partOf_75 rfl ?_
        refine ii_iload 3 dX2_partOf_77 rfl ?_
        refine ii_iload 4 dX2_partOf_79 rfl ?_
        obtain ⟨c_8, hc_8, h⟩ := bnd h
        refine ii_callVi (As := [.int p0, .int s_6.2, .int x_2, .int c_3]) (ws' := [(a_this, .inr (2, [.ref a_this_house, .ref a_this_law, .ref a_this_paid])), (a_this_house, .inr (0, [.ref a_this_house_merchants, .ref a_this_house_texts, .ref a_this_house_acts, .ref a_this_house_debts, .ref a_this_house_payments, .ref a_this_house_purses, .ref a_this_house_gates, .ref a_this_house_stones, .ref a_this_house_told, .ref a_this_house_letters, .ref a_this_house_mentions, .ref a_this_house_loads, .ref a_this_house_prices, .int v_this_house_narrow, .int v_this_house_names])), (a_this_house_merchants, .inr (8, [.int (2 : Int32), .int (10 : Int32), .ref a_this_house_merchants_cells, .int v_this_house_merchants_rows])), (a_this_house_purses, .inr (8, [.int (13 : Int32), .int (3 : Int32), .ref a_this_house_purses_cells, .int v_this_house_purses_rows])), (a_this_house_purses_cells, .inl (cI, 39, .inl v_this_house_purses_cells))]) (st := [.int s_6.1]) (c_X2_byShares l D cI cJ cZ cH a_this a_this_house a_this_house_acts a_this_house_debts a_this_house_gates a_this_house_letters a_this_house_loads a_this_house_mentions a_this_house_merchants a_this_house_payments a_this_house_prices a_this_house_purses a_this_house_purses_cells a_this_house_stones a_this_house_texts a_this_house_told a_this_law a_this_paid v_this_house_names v_this_house_narrow v_this_house_purses_cells v_this_house_purses_rows p0 s_6.2 x_2 c_3 hc_8) gzX2_90 rfl rfl rfl eV_X2_byShares ⟨Nat.le_of_ble_eq_true rfl, Nat.le_of_ble_eq_true rfl⟩ rfl 0 rfl rfl [0, 1, 3, 4] rfl rfl rfl rfl rfl (Nat.le_of_ble_eq_true rfl) (Nat.le_refl _) (Nat.le_refl _) rfl dX2_partOf_81 ?_
        refine ii_isub dX2_partOf_84 ?_
        refine ii_topI h (fun x_9 h => ?_)
        refine ii_istore (lv' := [(8, .int x_9), (0, .ref a_this), (1, .int p0), (4, .int t_1), (5, .int x_2), (6, .int c_3), (7, .int c_4), (9, .int s_6.2)]) dX2_partOf_85 (by decide) rfl ?_
        refine ii_iinc (fun x_10 => [(9, .int x_10), (8, .int x_9), (0, .ref a_this), (1, .int p0), (4, .int t_1), (5, .int x_2), (6, .int c_3), (7, .int c_4)]) h 7 dX2_partOf_87 rfl kc1 (by decide) (fun _ => rfl) (fun x_10 h => ?_)
        refine ii_goto (tgt := 56) dX2_partOf_90 (by decide) ?_
        refine ii_lv [2, 3, 4, 5, 6, 7, 1, 0] rfl ?_
        cases h
        exact hb_6 (x_9, x_10) rfl
  · skip
    refine ii_iload 0 dX2_partOf_46 rfl ?_
    cases h
    exact hQ _ _ dX2_partOf_48
set_option maxHeartbeats 4000000 in
set_option maxRecDepth 100000 in
theorem c_X3_agree (l : Launch) (D : va_G) (cI cJ cZ cH : ClassId) (a_this a_this_alike a_this_house a_this_house_acts a_this_house_debts a_this_house_gates a_this_house_letters a_this_house_loads a_this_house_mentions a_this_house_mentions_cells a_this_house_merchants a_this_house_payments a_this_house_prices a_this_house_purses a_this_house_stones a_this_house_texts a_this_house_told a_this_least a_this_members : Nat) (v_this_house_mentions_cells : Nat → Int32) (v_this_house_mentions_rows : Int32) (v_this_house_names : Int32) (v_this_house_narrow : Int32) (p0 : Int32) (p1 : Int32) (p2 : Int32) {res : Int32} (h : F_X3_agree v_this_house_mentions_cells v_this_house_mentions_rows p0 p1 p2 = some res) : CTi l yX3_agree wzX3_agree { frames := 2, cells := 0, slots := 0, locals := 46 } D [(cI, .int), (cJ, .long), (cZ, .boolean), (cH, .object "TinHouse$House")] [.ref a_this, .int p0, .int p1, .int p2] [(a_this, .inr (3, [.ref a_this_house, .ref a_this_alike, .ref a_this_members, .ref a_this_least])), (a_this_house, .inr (0, [.ref a_this_house_merchants, .ref a_this_house_texts, .ref a_this_house_acts, .ref a_this_house_debts, .ref a_this_house_payments, .ref a_this_house_purses, .ref a_this_house_gates, .ref a_this_house_stones, .ref a_this_house_told, .ref a_this_house_letters, .ref a_this_house_mentions, .ref a_this_house_loads, .ref a_this_house_prices, .int v_this_house_narrow, .int v_this_house_names])), (a_this_house_mentions, .inr (8, [.int (3 : Int32), .int (10 : Int32), .ref a_this_house_mentions_cells, .int v_this_house_mentions_rows])), (a_this_house_mentions_cells, .inl (cI, 30, .inl v_this_house_mentions_cells))] res [(a_this, .inr (3, [.ref a_this_house, .ref a_this_alike, .ref a_this_members, .ref a_this_least])), (a_this_house, .inr (0, [.ref a_this_house_merchants, .ref a_this_house_texts, .ref a_this_house_acts, .ref a_this_house_debts, .ref a_this_house_payments, .ref a_this_house_purses, .ref a_this_house_gates, .ref a_this_house_stones, .ref a_this_house_told, .ref a_this_house_letters, .ref a_this_house_mentions, .ref a_this_house_loads, .ref a_this_house_prices, .int v_this_house_narrow, .int v_this_house_names])), (a_this_house_mentions, .inr (8, [.int (3 : Int32), .int (10 : Int32), .ref a_this_house_mentions_cells, .int v_this_house_mentions_rows])), (a_this_house_mentions_cells, .inl (cI, 30, .inl v_this_house_mentions_cells))] := by
  unfold F_X3_agree at h
  refine ii_metZ (own := RX3) (lv0 := [(0, .ref a_this), (1, .int p0), (2, .int p1), (3, .int p2)]) (by decide) rfl rfl rfl (Nat.le_of_ble_eq_true rfl) (fun {p e s m args below meth c A Q} hQ => ?_)
  refine ii_aload_n 0 dX3_agree_0 rfl ?_
  refine ii_get (C := RX3) (T := TX3) (N := 4) (ci := 3) izX3 0 rfl rfl 0 (by decide) kX3_21 rfl dX3_agree_1 ?_
  refine ii_get (C := RX0) (T := TX0) (N := 15) (ci := 0) izX0 1 rfl rfl 10 (by decide) kX3_38 rfl dX3_agree_4 ?_
  refine ii_iload_n 1 dX3_agree_7 rfl ?_
  refine ii_iload_n 3 dX3_agree_8 rfl ?_
  obtain ⟨c_1, hc_1, h⟩ := bnd h
  refine ii_callVi (As := [.int p0, .int p2]) (ws' := [(a_this, .inr (3, [.ref a_this_house, .ref a_this_alike, .ref a_this_members, .ref a_this_least])), (a_this_house, .inr (0, [.ref a_this_house_merchants, .ref a_this_house_texts, .ref a_this_house_acts, .ref a_this_house_debts, .ref a_this_house_payments, .ref a_this_house_purses, .ref a_this_house_gates, .ref a_this_house_stones, .ref a_this_house_told, .ref a_this_house_letters, .ref a_this_house_mentions, .ref a_this_house_loads, .ref a_this_house_prices, .int v_this_house_narrow, .int v_this_house_names])), (a_this_house_mentions, .inr (8, [.int (3 : Int32), .int (10 : Int32), .ref a_this_house_mentions_cells, .int v_this_house_mentions_rows])), (a_this_house_mentions_cells, .inl (cI, 30, .inl v_this_house_mentions_cells))]) (st := []) (c_X8_get l D cI cJ cZ cH a_this_house_mentions a_this_house_mentions_cells 30 v_this_house_mentions_cells (10 : Int32) v_this_house_mentions_rows (3 : Int32) p0 p2 hc_1) gzX3_53 rfl rfl rfl eV_X8_get ⟨Nat.le_of_ble_eq_true rfl, Nat.le_of_ble_eq_true rfl⟩ rfl 2 rfl rfl [2, 3] rfl rfl rfl rfl rfl (Nat.le_of_ble_eq_true rfl) (Nat.le_refl _) (Nat.le_refl _) rfl dX3_agree_9 ?_
  refine ii_istore (lv' := [(4, .int c_1), (0, .ref a_this), (1, .int p0), (2, .int p1), (3, .int p2)]) dX3_agree_12 (by decide) rfl ?_
  refine ii_aload_n 1 dX3_agree_14 rfl ?_
  refine ii_get (C := RX3) (T := TX3) (N := 4) (ci := 3) izX3 0 rfl rfl 0 (by decide) kX3_21 rfl dX3_agree_15 ?_
  refine ii_get (C := RX0) (T := TX0) (N := 15) (ci := 0) izX0 1 rfl rfl 10 (by decide) kX3_38 rfl dX3_agree_18 ?_
  refine ii_iload_n 3 dX3_agree_21 rfl ?_
  refine ii_iload_n 4 dX3_agree_22 rfl ?_
  obtain ⟨c_2, hc_2, h⟩ := bnd h
  refine ii_callVi (As := [.int p1, .int p2]) (ws' := [(a_this, .inr (3, [.ref a_this_house, .ref a_this_alike, .ref a_this_members, .ref a_this_least])), (a_this_house, .inr (0, [.ref a_this_house_merchants, .ref a_this_house_texts, .ref a_this_house_acts, .ref a_this_house_debts, .ref a_this_house_payments, .ref a_this_house_purses, .ref a_this_house_gates, .ref a_this_house_stones, .ref a_this_house_told, .ref a_this_house_letters, .ref a_this_house_mentions, .ref a_this_house_loads, .ref a_this_house_prices, .int v_this_house_narrow, .int v_this_house_names])), (a_this_house_mentions, .inr (8, [.int (3 : Int32), .int (10 : Int32), .ref a_this_house_mentions_cells, .int v_this_house_mentions_rows])), (a_this_house_mentions_cells, .inl (cI, 30, .inl v_this_house_mentions_cells))]) (st := []) (c_X8_get l D cI cJ cZ cH a_this_house_mentions a_this_house_mentions_cells 30 v_this_house_mentions_cells (10 : Int32) v_this_house_mentions_rows (3 : Int32) p1 p2 hc_2) gzX3_53 rfl rfl rfl eV_X8_get ⟨Nat.le_of_ble_eq_true rfl, Nat.le_of_ble_eq_true rfl⟩ rfl 2 rfl rfl [2, 3] rfl rfl rfl rfl rfl (Nat.le_of_ble_eq_true rfl) (Nat.le_refl _) (Nat.le_refl _) rfl dX3_agree_23 ?_
  refine ii_istore (lv' := [(5, .int c_2), (4, .int c_1), (0, .ref a_this), (1, .int p0), (2, .int p1), (3, .int p2)]) dX3_agree_26 (by decide) rfl ?_
  refine ii_iload 1 dX3_agree_28 rfl ?_
  refine ii_iconst dX3_agree_30 kcm1 ?_
  refine ii_jn h (fun j_3 => [(a_this, .inr (3, [.ref a_this_house, .ref a_this_alike, .ref a_this_members, .ref a_this_least])), (a_this_house, .inr (0, [.ref a_this_house_merchants, .ref a_this_house_texts, .ref a_this_house_acts, .ref a_this_house_debts, .ref a_this_house_payments, .ref a_this_house_purses, .ref a_this_house_gates, .ref a_this_house_stones, .ref a_this_house_told, .ref a_this_house_letters, .ref a_this_house_mentions, .ref a_this_house_loads, .ref a_this_house_prices, .int v_this_house_narrow, .int v_this_house_names])), (a_this_house_mentions, .inr (8, [.int (3 : Int32), .int (10 : Int32), .ref a_this_house_mentions_cells, .int v_this_house_mentions_rows])), (a_this_house_mentions_cells, .inl (cI, 30, .inl v_this_house_mentions_cells))]) (fun j_3 => []) 52 (fun j_3 => [.int j_3]) (fun j_3 h => ?_) (fun j_3 h hjj_3 => ?_)
  · skip
    refine ii_topB h (fun t_4 hz_5 h => ?_)
    cases h
    exact hQ _ _ dX3_agree_52 hz_5
  · skip
    refine ii_icmp_eq (tgt := 47) h dX3_agree_31 (by decide) (fun h => ?_) (fun h => ?_)
    · skip
      refine ii_iconst dX3_agree_47 kc1 ?_
      refine ii_goto (tgt := 52) dX3_agree_48 (by decide) ?_
      refine ii_lv [] rfl ?_
      cases h
      exact hjj_3
    · skip
      refine ii_iload 0 dX3_agree_34 rfl ?_
      refine ii_iconst dX3_agree_36 kcm1 ?_
      refine ii_icmp_eq (tgt := 47) h dX3_agree_37 (by decide) (fun h => ?_) (fun h => ?_)
      · skip
        refine ii_iconst dX3_agree_47 kc1 ?_
        refine ii_goto (tgt := 52) dX3_agree_48 (by decide) ?_
        refine ii_lv [] rfl ?_
        cases h
        exact hjj_3
      · skip
        refine ii_iload 1 dX3_agree_40 rfl ?_
        refine ii_iload 0 dX3_agree_42 rfl ?_
        refine ii_icmp_ne (tgt := 51) h dX3_agree_44 (by decide) (fun h => ?_) (fun h => ?_)
        · skip
          refine ii_iconst dX3_agree_51 kc0 ?_
          refine ii_lv [] rfl ?_
          cases h
          exact hjj_3
        · skip
          refine ii_iconst dX3_agree_47 kc1 ?_
          refine ii_goto (tgt := 52) dX3_agree_48 (by decide) ?_
          refine ii_lv [] rfl ?_
          cases h
          exact hjj_3
set_option maxHeartbeats 4000000 in
set_option maxRecDepth 100000 in
theorem c_X3_isOneMan (l : Launch) (D : va_G) (cI cJ cZ cH : ClassId) (a_this a_this_alike a_this_house a_this_house_acts a_this_house_debts a_this_house_gates a_this_house_letters a_this_house_loads a_this_house_mentions a_this_house_mentions_cells a_this_house_merchants a_this_house_payments a_this_house_prices a_this_house_purses a_this_house_stones a_this_house_texts a_this_house_told a_this_least a_this_members : Nat) (v_this_house_mentions_cells : Nat → Int32) (v_this_house_mentions_rows : Int32) (v_this_house_names : Int32) (v_this_house_narrow : Int32) (p0 : Int32) (p1 : Int32) {res : Int32} (h : F_X3_isOneMan v_this_house_mentions_cells v_this_house_mentions_rows p0 p1 = some res) : CTi l yX3_isOneMan wzX3_isOneMan { frames := 3, cells := 0, slots := 0, locals := 71 } D [(cI, .int), (cJ, .long), (cZ, .boolean), (cH, .object "TinHouse$House")] [.ref a_this, .int p0, .int p1] [(a_this, .inr (3, [.ref a_this_house, .ref a_this_alike, .ref a_this_members, .ref a_this_least])), (a_this_house, .inr (0, [.ref a_this_house_merchants, .ref a_this_house_texts, .ref a_this_house_acts, .ref a_this_house_debts, .ref a_this_house_payments, .ref a_this_house_purses, .ref a_this_house_gates, .ref a_this_house_stones, .ref a_this_house_told, .ref a_this_house_letters, .ref a_this_house_mentions, .ref a_this_house_loads, .ref a_this_house_prices, .int v_this_house_narrow, .int v_this_house_names])), (a_this_house_mentions, .inr (8, [.int (3 : Int32), .int (10 : Int32), .ref a_this_house_mentions_cells, .int v_this_house_mentions_rows])), (a_this_house_mentions_cells, .inl (cI, 30, .inl v_this_house_mentions_cells))] res [(a_this, .inr (3, [.ref a_this_house, .ref a_this_alike, .ref a_this_members, .ref a_this_least])), (a_this_house, .inr (0, [.ref a_this_house_merchants, .ref a_this_house_texts, .ref a_this_house_acts, .ref a_this_house_debts, .ref a_this_house_payments, .ref a_this_house_purses, .ref a_this_house_gates, .ref a_this_house_stones, .ref a_this_house_told, .ref a_this_house_letters, .ref a_this_house_mentions, .ref a_this_house_loads, .ref a_this_house_prices, .int v_this_house_narrow, .int v_this_house_names])), (a_this_house_mentions, .inr (8, [.int (3 : Int32), .int (10 : Int32), .ref a_this_house_mentions_cells, .int v_this_house_mentions_rows])), (a_this_house_mentions_cells, .inl (cI, 30, .inl v_this_house_mentions_cells))] := by
  unfold F_X3_isOneMan at h
  refine ii_metZ (own := RX3) (lv0 := [(0, .ref a_this), (1, .int p0), (2, .int p1)]) (by decide) rfl rfl rfl (Nat.le_of_ble_eq_true rfl) (fun {p e s m args below meth c A Q} hQ => ?_)
  refine ii_aload_n 0 dX3_isOneMan_0 rfl ?_
  refine ii_get (C := RX3) (T := TX3) (N := 4) (ci := 3) izX3 0 rfl rfl 0 (by decide) kX3_21 rfl dX3_isOneMan_1 ?_
  refine ii_get (C := RX0) (T := TX0) (N := 15) (ci := 0) izX0 1 rfl rfl 10 (by decide) kX3_38 rfl dX3_isOneMan_4 ?_
  refine ii_iload_n 1 dX3_isOneMan_7 rfl ?_
  refine ii_iconst dX3_isOneMan_8 kc2 ?_
  obtain ⟨c_1, hc_1, h⟩ := bnd h
  refine ii_callVi (As := [.int p0, .int (2 : Int32)]) (ws' := [(a_this, .inr (3, [.ref a_this_house, .ref a_this_alike, .ref a_this_members, .ref a_this_least])), (a_this_house, .inr (0, [.ref a_this_house_merchants, .ref a_this_house_texts, .ref a_this_house_acts, .ref a_this_house_debts, .ref a_this_house_payments, .ref a_this_house_purses, .ref a_this_house_gates, .ref a_this_house_stones, .ref a_this_house_told, .ref a_this_house_letters, .ref a_this_house_mentions, .ref a_this_house_loads, .ref a_this_house_prices, .int v_this_house_narrow, .int v_this_house_names])), (a_this_house_mentions, .inr (8, [.int (3 : Int32), .int (10 : Int32), .ref a_this_house_mentions_cells, .int v_this_house_mentions_rows])), (a_this_house_mentions_cells, .inl (cI, 30, .inl v_this_house_mentions_cells))]) (st := []) (c_X8_get l D cI cJ cZ cH a_this_house_mentions a_this_house_mentions_cells 30 v_this_house_mentions_cells (10 : Int32) v_this_house_mentions_rows (3 : Int32) p0 (2 : Int32) hc_1) gzX3_53 rfl rfl rfl eV_X8_get ⟨Nat.le_of_ble_eq_true rfl, Nat.le_of_ble_eq_true rfl⟩ rfl 2 rfl rfl [2, 3] rfl rfl rfl rfl rfl (Nat.le_of_ble_eq_true rfl) (Nat.le_refl _) (Nat.le_refl _) rfl dX3_isOneMan_9 ?_
  refine ii_aload_n 0 dX3_isOneMan_12 rfl ?_
  refine ii_get (C := RX3) (T := TX3) (N := 4) (ci := 3) izX3 0 rfl rfl 0 (by decide) kX3_21 rfl dX3_isOneMan_13 ?_
  refine ii_get (C := RX0) (T := TX0) (N := 15) (ci := 0) izX0 1 rfl rfl 10 (by decide) kX3_38 rfl dX3_isOneMan_16 ?_
  refine ii_iload_n 2 dX3_isOneMan_19 rfl ?_
  refine ii_iconst dX3_isOneMan_20 kc2 ?_
  obtain ⟨c_2, hc_2, h⟩ := bnd h
  refine ii_callVi (As := [.int p1, .int (2 : Int32)]) (ws' := [(a_this, .inr (3, [.ref a_this_house, .ref a_this_alike, .ref a_this_members, .ref a_this_least])), (a_this_house, .inr (0, [.ref a_this_house_merchants, .ref a_this_house_texts, .ref a_this_house_acts, .ref a_this_house_debts, .ref a_this_house_payments, .ref a_this_house_purses, .ref a_this_house_gates, .ref a_this_house_stones, .ref a_this_house_told, .ref a_this_house_letters, .ref a_this_house_mentions, .ref a_this_house_loads, .ref a_this_house_prices, .int v_this_house_narrow, .int v_this_house_names])), (a_this_house_mentions, .inr (8, [.int (3 : Int32), .int (10 : Int32), .ref a_this_house_mentions_cells, .int v_this_house_mentions_rows])), (a_this_house_mentions_cells, .inl (cI, 30, .inl v_this_house_mentions_cells))]) (st := [.int c_1]) (c_X8_get l D cI cJ cZ cH a_this_house_mentions a_this_house_mentions_cells 30 v_this_house_mentions_cells (10 : Int32) v_this_house_mentions_rows (3 : Int32) p1 (2 : Int32) hc_2) gzX3_53 rfl rfl rfl eV_X8_get ⟨Nat.le_of_ble_eq_true rfl, Nat.le_of_ble_eq_true rfl⟩ rfl 2 rfl rfl [2, 3] rfl rfl rfl rfl rfl (Nat.le_of_ble_eq_true rfl) (Nat.le_refl _) (Nat.le_refl _) rfl dX3_isOneMan_21 ?_
  refine ii_isub dX3_isOneMan_24 ?_
  refine ii_topI h (fun x_3 h => ?_)
  refine ii_istore_n (lv' := [(3, .int x_3), (0, .ref a_this), (1, .int p0), (2, .int p1)]) dX3_isOneMan_25 rfl (by decide) rfl ?_
  refine ii_aload_n 1 dX3_isOneMan_26 rfl ?_
  refine ii_iload_n 2 dX3_isOneMan_27 rfl ?_
  refine ii_iload_n 3 dX3_isOneMan_28 rfl ?_
  refine ii_iconst dX3_isOneMan_29 kc0 ?_
  obtain ⟨c_4, hc_4, h⟩ := bnd h
  refine ii_callVi (As := [.int p0, .int p1, .int (0 : Int32)]) (ws' := [(a_this, .inr (3, [.ref a_this_house, .ref a_this_alike, .ref a_this_members, .ref a_this_least])), (a_this_house, .inr (0, [.ref a_this_house_merchants, .ref a_this_house_texts, .ref a_this_house_acts, .ref a_this_house_debts, .ref a_this_house_payments, .ref a_this_house_purses, .ref a_this_house_gates, .ref a_this_house_stones, .ref a_this_house_told, .ref a_this_house_letters, .ref a_this_house_mentions, .ref a_this_house_loads, .ref a_this_house_prices, .int v_this_house_narrow, .int v_this_house_names])), (a_this_house_mentions, .inr (8, [.int (3 : Int32), .int (10 : Int32), .ref a_this_house_mentions_cells, .int v_this_house_mentions_rows])), (a_this_house_mentions_cells, .inl (cI, 30, .inl v_this_house_mentions_cells))]) (st := []) (c_X3_agree l D cI cJ cZ cH a_this a_this_alike a_this_house a_this_house_acts a_this_house_debts a_this_house_gates a_this_house_letters a_this_house_loads a_this_house_mentions a_this_house_mentions_cells a_this_house_merchants a_this_house_payments a_this_house_prices a_this_house_purses a_this_house_stones a_this_house_texts a_this_house_told a_this_least a_this_members v_this_house_mentions_cells v_this_house_mentions_rows v_this_house_names v_this_house_narrow p0 p1 (0 : Int32) hc_4) gzX3_57 rfl rfl rfl eV_X3_agree ⟨Nat.le_of_ble_eq_true rfl, Nat.le_of_ble_eq_true rfl⟩ rfl 0 rfl rfl [0, 1, 2, 3] rfl rfl rfl rfl rfl (Nat.le_of_ble_eq_true rfl) (Nat.le_refl _) (Nat.le_refl _) rfl dX3_isOneMan_30 ?_
  refine ii_jn h (fun j_5 => [(a_this, .inr (3, [.ref a_this_house, .ref a_this_alike, .ref a_this_members, .ref a_this_least])), (a_this_house, .inr (0, [.ref a_this_house_merchants, .ref a_this_house_texts, .ref a_this_house_acts, .ref a_this_house_debts, .ref a_this_house_payments, .ref a_this_house_purses, .ref a_this_house_gates, .ref a_this_house_stones, .ref a_this_house_told, .ref a_this_house_letters, .ref a_this_house_mentions, .ref a_this_house_loads, .ref a_this_house_prices, .int v_this_house_narrow, .int v_this_house_names])), (a_this_house_mentions, .inr (8, [.int (3 : Int32), .int (10 : Int32), .ref a_this_house_mentions_cells, .int v_this_house_mentions_rows])), (a_this_house_mentions_cells, .inl (cI, 30, .inl v_this_house_mentions_cells))]) (fun j_5 => []) 60 (fun j_5 => [.int j_5]) (fun j_5 h => ?_) (fun j_5 h hjj_5 => ?_)
  · skip
    refine ii_topB h (fun t_7 hz_8 h => ?_)
    cases h
    exact hQ _ _ dX3_isOneMan_60 hz_8
  · skip
    refine ii_if_eq (tgt := 59) h dX3_isOneMan_33 (by decide) (fun h => ?_) (fun h => ?_)
    · skip
      refine ii_iconst dX3_isOneMan_59 kc0 ?_
      refine ii_lv [] rfl ?_
      cases h
      exact hjj_5
    · skip
      refine ii_aload_n 1 dX3_isOneMan_36 rfl ?_
      refine ii_iload_n 2 dX3_isOneMan_37 rfl ?_
      refine ii_iload_n 3 dX3_isOneMan_38 rfl ?_
      refine ii_iconst dX3_isOneMan_39 kc1 ?_
      obtain ⟨c_6, hc_6, h⟩ := bnd h
      refine ii_callVi (As := [.int p0, .int p1, .int (1 : Int32)]) (ws' := [(a_this, .inr (3, [.ref a_this_house, .ref a_this_alike, .ref a_this_members, .ref a_this_least])), (a_this_house, .inr (0, [.ref a_this_house_merchants, .ref a_this_house_texts, .ref a_this_house_acts, .ref a_this_house_debts, .ref a_this_house_payments, .ref a_this_house_purses, .ref a_this_house_gates, .ref a_this_house_stones, .ref a_this_house_told, .ref a_this_house_letters, .ref a_this_house_mentions, .ref a_this_house_loads, .ref a_this_house_prices, .int v_this_house_narrow, .int v_this_house_names])), (a_this_house_mentions, .inr (8, [.int (3 : Int32), .int (10 : Int32), .ref a_this_house_mentions_cells, .int v_this_house_mentions_rows])), (a_this_house_mentions_cells, .inl (cI, 30, .inl v_this_house_mentions_cells))]) (st := []) (c_X3_agree l D cI cJ cZ cH a_this a_this_alike a_this_house a_this_house_acts a_this_house_debts a_this_house_gates a_this_house_letters a_this_house_loads a_this_house_mentions a_this_house_mentions_cells a_this_house_merchants a_this_house_payments a_this_house_prices a_this_house_purses a_this_house_stones a_this_house_texts a_this_house_told a_this_least a_this_members v_this_house_mentions_cells v_this_house_mentions_rows v_this_house_names v_this_house_narrow p0 p1 (1 : Int32) hc_6) gzX3_57 rfl rfl rfl eV_X3_agree ⟨Nat.le_of_ble_eq_true rfl, Nat.le_of_ble_eq_true rfl⟩ rfl 0 rfl rfl [0, 1, 2, 3] rfl rfl rfl rfl rfl (Nat.le_of_ble_eq_true rfl) (Nat.le_refl _) (Nat.le_refl _) rfl dX3_isOneMan_40 ?_
      refine ii_if_eq (tgt := 59) h dX3_isOneMan_43 (by decide) (fun h => ?_) (fun h => ?_)
      · skip
        refine ii_iconst dX3_isOneMan_59 kc0 ?_
        refine ii_lv [] rfl ?_
        cases h
        exact hjj_5
      · skip
        refine ii_iload_n 0 dX3_isOneMan_46 rfl ?_
        refine ii_mabs mX3_61 ms_abs mi_Math mc_abs (Nat.le_of_ble_eq_true rfl) (Nat.le_of_ble_eq_true rfl) (Nat.le_refl _) (Nat.le_refl _) dX3_isOneMan_47 ?_
        refine ii_bipush dX3_isOneMan_50 kb40 ?_
        refine ii_icmp_gt (tgt := 59) h dX3_isOneMan_52 (by decide) (fun h => ?_) (fun h => ?_)
        · skip
          refine ii_iconst dX3_isOneMan_59 kc0 ?_
          refine ii_lv [] rfl ?_
          cases h
          exact hjj_5
        · skip
          refine ii_iconst dX3_isOneMan_55 kc1 ?_
          refine ii_goto (tgt := 60) dX3_isOneMan_56 (by decide) ?_
          refine ii_lv [] rfl ?_
          cases h
          exact hjj_5
set_option maxHeartbeats 4000000 in
set_option maxRecDepth 100000 in
theorem c_X3_compare (l : Launch) (D : va_G) (cI cJ cZ cH : ClassId) (a_this a_this_alike a_this_house a_this_house_acts a_this_house_debts a_this_house_gates a_this_house_letters a_this_house_loads a_this_house_mentions a_this_house_mentions_cells a_this_house_merchants a_this_house_payments a_this_house_prices a_this_house_purses a_this_house_stones a_this_house_texts a_this_house_told a_this_least a_this_members : Nat) (v_this_alike : Nat → Int32) (v_this_house_mentions_cells : Nat → Int32) (v_this_house_mentions_rows : Int32) (v_this_house_names : Int32) (v_this_house_narrow : Int32) {res : (Nat → Int32)} (h : F_X3_compare v_this_alike v_this_house_mentions_cells v_this_house_mentions_rows = some res) : CTv l yX3_compare wzX3_compare { frames := 4, cells := 0, slots := 0, locals := 94 } D [(cI, .int), (cJ, .long), (cZ, .boolean), (cH, .object "TinHouse$House")] [.ref a_this] [(a_this, .inr (3, [.ref a_this_house, .ref a_this_alike, .ref a_this_members, .ref a_this_least])), (a_this_alike, .inl (cI, 10, .inl v_this_alike)), (a_this_house, .inr (0, [.ref a_this_house_merchants, .ref a_this_house_texts, .ref a_this_house_acts, .ref a_this_house_debts, .ref a_this_house_payments, .ref a_this_house_purses, .ref a_this_house_gates, .ref a_this_house_stones, .ref a_this_house_told, .ref a_this_house_letters, .ref a_this_house_mentions, .ref a_this_house_loads, .ref a_this_house_prices, .int v_this_house_narrow, .int v_this_house_names])), (a_this_house_mentions, .inr (8, [.int (3 : Int32), .int (10 : Int32), .ref a_this_house_mentions_cells, .int v_this_house_mentions_rows])), (a_this_house_mentions_cells, .inl (cI, 30, .inl v_this_house_mentions_cells))] [(a_this, .inr (3, [.ref a_this_house, .ref a_this_alike, .ref a_this_members, .ref a_this_least])), (a_this_alike, .inl (cI, 10, .inl res)), (a_this_house, .inr (0, [.ref a_this_house_merchants, .ref a_this_house_texts, .ref a_this_house_acts, .ref a_this_house_debts, .ref a_this_house_payments, .ref a_this_house_purses, .ref a_this_house_gates, .ref a_this_house_stones, .ref a_this_house_told, .ref a_this_house_letters, .ref a_this_house_mentions, .ref a_this_house_loads, .ref a_this_house_prices, .int v_this_house_narrow, .int v_this_house_names])), (a_this_house_mentions, .inr (8, [.int (3 : Int32), .int (10 : Int32), .ref a_this_house_mentions_cells, .int v_this_house_mentions_rows])), (a_this_house_mentions_cells, .inl (cI, 30, .inl v_this_house_mentions_cells))] := by
  unfold F_X3_compare at h
  refine ii_metV (own := RX3) (lv0 := [(0, .ref a_this)]) (by decide) rfl rfl rfl (Nat.le_of_ble_eq_true rfl) (fun {p e s m args below meth c A Q} hQ => ?_)
  refine ii_iconst dX3_compare_0 kc0 ?_
  refine ii_istore_n (lv' := [(1, .int (0 : Int32)), (0, .ref a_this)]) dX3_compare_1 rfl (by decide) rfl ?_
  refine ii_lv [1, 0] rfl ?_
  obtain ⟨x_2, hl_1, h⟩ := bnd h
  refine ii_loopX (fun s_1 => [(a_this, .inr (3, [.ref a_this_house, .ref a_this_alike, .ref a_this_members, .ref a_this_least])), (a_this_alike, .inl (cI, 10, .inl s_1.2)), (a_this_house, .inr (0, [.ref a_this_house_merchants, .ref a_this_house_texts, .ref a_this_house_acts, .ref a_this_house_debts, .ref a_this_house_payments, .ref a_this_house_purses, .ref a_this_house_gates, .ref a_this_house_stones, .ref a_this_house_told, .ref a_this_house_letters, .ref a_this_house_mentions, .ref a_this_house_loads, .ref a_this_house_prices, .int v_this_house_narrow, .int v_this_house_names])), (a_this_house_mentions, .inr (8, [.int (3 : Int32), .int (10 : Int32), .ref a_this_house_mentions_cells, .int v_this_house_mentions_rows])), (a_this_house_mentions_cells, .inl (cI, 30, .inl v_this_house_mentions_cells))]) (fun s_1 => [(0, .ref a_this), (1, .int s_1.1)]) (fun x_2 => [(a_this, .inr (3, [.ref a_this_house, .ref a_this_alike, .ref a_this_members, .ref a_this_least])), (a_this_alike, .inl (cI, 10, .inl x_2.2)), (a_this_house, .inr (0, [.ref a_this_house_merchants, .ref a_this_house_texts, .ref a_this_house_acts, .ref a_this_house_debts, .ref a_this_house_payments, .ref a_this_house_purses, .ref a_this_house_gates, .ref a_this_house_stones, .ref a_this_house_told, .ref a_this_house_letters, .ref a_this_house_mentions, .ref a_this_house_loads, .ref a_this_house_prices, .int v_this_house_narrow, .int v_this_house_names])), (a_this_house_mentions, .inr (8, [.int (3 : Int32), .int (10 : Int32), .ref a_this_house_mentions_cells, .int v_this_house_mentions_rows])), (a_this_house_mentions_cells, .inl (cI, 30, .inl v_this_house_mentions_cells))]) (fun x_2 => []) 71 hl_1 rfl rfl ?_ (fun s_1 o h hb_1 hr_1 hx_1 => ?_)
  · skip
    cases h
    exact hQ _ _ dX3_compare_71
  · skip
    refine ii_iload_n 1 dX3_compare_2 rfl ?_
    refine ii_aload_n 0 dX3_compare_3 rfl ?_
    refine ii_get (C := RX3) (T := TX3) (N := 4) (ci := 3) izX3 0 rfl rfl 1 (by decide) kX3_9 rfl dX3_compare_4 ?_
    refine ii_alen (v := (10 : Int32)) 1 0 rfl rfl rfl dX3_compare_7 ?_
    refine ii_icmp_ge (tgt := 71) h dX3_compare_8 (by decide) (fun h => ?_) (fun h => ?_)
    · skip
      refine ii_lv [] rfl ?_
      cases h
      exact hx_1 (s_1.1, s_1.2) (hr_1 _ rfl)
    · skip
      refine ii_aload_n 0 dX3_compare_11 rfl ?_
      refine ii_get (C := RX3) (T := TX3) (N := 4) (ci := 3) izX3 0 rfl rfl 1 (by decide) kX3_9 rfl dX3_compare_12 ?_
      refine ii_iload_n 1 dX3_compare_15 rfl ?_
      refine ii_iconst dX3_compare_16 kc0 ?_
      refine ii_iast (fun g_3 => [(a_this, .inr (3, [.ref a_this_house, .ref a_this_alike, .ref a_this_members, .ref a_this_least])), (a_this_alike, .inl (cI, 10, .inl g_3)), (a_this_house, .inr (0, [.ref a_this_house_merchants, .ref a_this_house_texts, .ref a_this_house_acts, .ref a_this_house_debts, .ref a_this_house_payments, .ref a_this_house_purses, .ref a_this_house_gates, .ref a_this_house_stones, .ref a_this_house_told, .ref a_this_house_letters, .ref a_this_house_mentions, .ref a_this_house_loads, .ref a_this_house_prices, .int v_this_house_narrow, .int v_this_house_names])), (a_this_house_mentions, .inr (8, [.int (3 : Int32), .int (10 : Int32), .ref a_this_house_mentions_cells, .int v_this_house_mentions_rows])), (a_this_house_mentions_cells, .inl (cI, 30, .inl v_this_house_mentions_cells))]) h 1 0 rfl rfl dX3_compare_17 (fun _ => rfl) (fun g_3 h => ?_)
      refine ii_iconst dX3_compare_18 kc0 ?_
      refine ii_istore_n (lv' := [(2, .int (0 : Int32)), (0, .ref a_this), (1, .int s_1.1)]) dX3_compare_19 rfl (by decide) rfl ?_
      refine ii_lv [1, 2, 0] rfl ?_
      obtain ⟨x_5, hl_4, h⟩ := bnd h
      refine ii_loopX (fun s_4 => [(a_this, .inr (3, [.ref a_this_house, .ref a_this_alike, .ref a_this_members, .ref a_this_least])), (a_this_alike, .inl (cI, 10, .inl s_4.2)), (a_this_house, .inr (0, [.ref a_this_house_merchants, .ref a_this_house_texts, .ref a_this_house_acts, .ref a_this_house_debts, .ref a_this_house_payments, .ref a_this_house_purses, .ref a_this_house_gates, .ref a_this_house_stones, .ref a_this_house_told, .ref a_this_house_letters, .ref a_this_house_mentions, .ref a_this_house_loads, .ref a_this_house_prices, .int v_this_house_narrow, .int v_this_house_names])), (a_this_house_mentions, .inr (8, [.int (3 : Int32), .int (10 : Int32), .ref a_this_house_mentions_cells, .int v_this_house_mentions_rows])), (a_this_house_mentions_cells, .inl (cI, 30, .inl v_this_house_mentions_cells))]) (fun s_4 => [(0, .ref a_this), (1, .int s_1.1), (2, .int s_4.1)]) (fun x_5 => [(a_this, .inr (3, [.ref a_this_house, .ref a_this_alike, .ref a_this_members, .ref a_this_least])), (a_this_alike, .inl (cI, 10, .inl x_5.2)), (a_this_house, .inr (0, [.ref a_this_house_merchants, .ref a_this_house_texts, .ref a_this_house_acts, .ref a_this_house_debts, .ref a_this_house_payments, .ref a_this_house_purses, .ref a_this_house_gates, .ref a_this_house_stones, .ref a_this_house_told, .ref a_this_house_letters, .ref a_this_house_mentions, .ref a_this_house_loads, .ref a_this_house_prices, .int v_this_house_narrow, .int v_this_house_names])), (a_this_house_mentions, .inr (8, [.int (3 : Int32), .int (10 : Int32), .ref a_this_house_mentions_cells, .int v_this_house_mentions_rows])), (a_this_house_mentions_cells, .inl (cI, 30, .inl v_this_house_mentions_cells))]) (fun x_5 => [(0, .ref a_this), (1, .int s_1.1)]) 65 hl_4 rfl rfl ?_ (fun s_4 o h hb_4 hr_4 hx_4 => ?_)
      · skip
        refine ii_iinc (fun x_11 => [(1, .int x_11), (0, .ref a_this)]) h 1 dX3_compare_65 rfl kc1 (by decide) (fun _ => rfl) (fun x_11 h => ?_)
        refine ii_goto (tgt := 2) dX3_compare_68 (by decide) ?_
        refine ii_lv [1, 0] rfl ?_
        cases h
        exact hb_1 (x_11, x_5.2) rfl
      · skip
        refine ii_iload_n 2 dX3_compare_20 rfl ?_
        refine ii_aload_n 0 dX3_compare_21 rfl ?_
        refine ii_get (C := RX3) (T := TX3) (N := 4) (ci := 3) izX3 0 rfl rfl 0 (by decide) kX3_21 rfl dX3_compare_22 ?_
        refine ii_get (C := RX0) (T := TX0) (N := 15) (ci := 0) izX0 2 rfl rfl 10 (by decide) kX3_38 rfl dX3_compare_25 ?_
        refine ii_get (C := RX8) (T := TX8) (N := 4) (ci := 8) izX8 3 rfl rfl 3 (by decide) kX3_44 rfl dX3_compare_28 ?_
        refine ii_icmp_ge (tgt := 65) h dX3_compare_31 (by decide) (fun h => ?_) (fun h => ?_)
        · skip
          refine ii_lv [0, 1] rfl ?_
          cases h
          exact hx_4 (s_4.1, s_4.2) (hr_4 _ rfl)
        · skip
          refine ii_aload_n 0 dX3_compare_34 rfl ?_
          refine ii_get (C := RX3) (T := TX3) (N := 4) (ci := 3) izX3 0 rfl rfl 1 (by decide) kX3_9 rfl dX3_compare_35 ?_
          refine ii_iload_n 1 dX3_compare_38 rfl ?_
          refine ii_dup2 dX3_compare_39 rfl rfl ?_
          refine ii_iald h 1 0 rfl rfl dX3_compare_40 (fun t_6 h => ?_)
          refine ii_aload_n 0 dX3_compare_41 rfl ?_
          refine ii_iload_n 1 dX3_compare_42 rfl ?_
          refine ii_iload_n 2 dX3_compare_43 rfl ?_
          obtain ⟨c_7, hc_7, h⟩ := bnd h
          refine ii_callVi (As := [.int s_1.1, .int s_4.1]) (ws' := [(a_this, .inr (3, [.ref a_this_house, .ref a_this_alike, .ref a_this_members, .ref a_this_least])), (a_this_alike, .inl (cI, 10, .inl s_4.2)), (a_this_house, .inr (0, [.ref a_this_house_merchants, .ref a_this_house_texts, .ref a_this_house_acts, .ref a_this_house_debts, .ref a_this_house_payments, .ref a_this_house_purses, .ref a_this_house_gates, .ref a_this_house_stones, .ref a_this_house_told, .ref a_this_house_letters, .ref a_this_house_mentions, .ref a_this_house_loads, .ref a_this_house_prices, .int v_this_house_narrow, .int v_this_house_names])), (a_this_house_mentions, .inr (8, [.int (3 : Int32), .int (10 : Int32), .ref a_this_house_mentions_cells, .int v_this_house_mentions_rows])), (a_this_house_mentions_cells, .inl (cI, 30, .inl v_this_house_mentions_cells))]) (st := [.int t_6, .int s_1.1, .ref a_this_alike]) (c_X3_isOneMan l D cI cJ cZ cH a_this a_this_alike a_this_house a_this_house_acts a_this_house_debts a_this_house_gates a_this_house_letters a_this_house_loads a_this_house_mentions a_this_house_mentions_cells a_this_house_merchants a_this_house_payments a_this_house_prices a_this_house_purses a_this_house_stones a_this_house_texts a_this_house_told a_this_least a_this_members v_this_house_mentions_cells v_this_house_mentions_rows v_this_house_names v_this_house_narrow s_1.1 s_4.1 hc_7) gzX3_50 rfl rfl rfl eV_X3_isOneMan ⟨Nat.le_of_ble_eq_true rfl, Nat.le_of_ble_eq_true rfl⟩ rfl 0 rfl rfl [0, 2, 3, 4] rfl rfl rfl rfl rfl (Nat.le_of_ble_eq_true rfl) (Nat.le_refl _) (Nat.le_refl _) rfl dX3_compare_44 ?_
          refine ii_jn h (fun j_8 => [(a_this, .inr (3, [.ref a_this_house, .ref a_this_alike, .ref a_this_members, .ref a_this_least])), (a_this_alike, .inl (cI, 10, .inl s_4.2)), (a_this_house, .inr (0, [.ref a_this_house_merchants, .ref a_this_house_texts, .ref a_this_house_acts, .ref a_this_house_debts, .ref a_this_house_payments, .ref a_this_house_purses, .ref a_this_house_gates, .ref a_this_house_stones, .ref a_this_house_told, .ref a_this_house_letters, .ref a_this_house_mentions, .ref a_this_house_loads, .ref a_this_house_prices, .int v_this_house_narrow, .int v_this_house_names])), (a_this_house_mentions, .inr (8, [.int (3 : Int32), .int (10 : Int32), .ref a_this_house_mentions_cells, .int v_this_house_mentions_rows])), (a_this_house_mentions_cells, .inl (cI, 30, .inl v_this_house_mentions_cells))]) (fun j_8 => [(0, .ref a_this), (1, .int s_1.1), (2, .int s_4.1)]) 57 (fun j_8 => [.int j_8, .int t_6, .int s_1.1, .ref a_this_alike]) (fun j_8 h => ?_) (fun j_8 h hjj_8 => ?_)
          · skip
            refine ii_ior dX3_compare_57 ?_
            refine ii_iast (fun g_9 => [(a_this, .inr (3, [.ref a_this_house, .ref a_this_alike, .ref a_this_members, .ref a_this_least])), (a_this_alike, .inl (cI, 10, .inl g_9)), (a_this_house, .inr (0, [.ref a_this_house_merchants, .ref a_this_house_texts, .ref a_this_house_acts, .ref a_this_house_debts, .ref a_this_house_payments, .ref a_this_house_purses, .ref a_this_house_gates, .ref a_this_house_stones, .ref a_this_house_told, .ref a_this_house_letters, .ref a_this_house_mentions, .ref a_this_house_loads, .ref a_this_house_prices, .int v_this_house_narrow, .int v_this_house_names])), (a_this_house_mentions, .inr (8, [.int (3 : Int32), .int (10 : Int32), .ref a_this_house_mentions_cells, .int v_this_house_mentions_rows])), (a_this_house_mentions_cells, .inl (cI, 30, .inl v_this_house_mentions_cells))]) h 1 0 rfl rfl dX3_compare_58 (fun _ => rfl) (fun g_9 h => ?_)
            refine ii_iinc (fun x_10 => [(2, .int x_10), (0, .ref a_this), (1, .int s_1.1)]) h 2 dX3_compare_59 rfl kc1 (by decide) (fun _ => rfl) (fun x_10 h => ?_)
            refine ii_goto (tgt := 20) dX3_compare_62 (by decide) ?_
            refine ii_lv [1, 2, 0] rfl ?_
            cases h
            exact hb_4 (x_10, g_9) rfl
          · skip
            refine ii_if_eq (tgt := 56) h dX3_compare_47 (by decide) (fun h => ?_) (fun h => ?_)
            · skip
              refine ii_iconst dX3_compare_56 kc0 ?_
              cases h
              exact hjj_8
            · skip
              refine ii_iconst dX3_compare_50 kc1 ?_
              refine ii_iload_n 2 dX3_compare_51 rfl ?_
              refine ii_ishl dX3_compare_52 ?_
              refine ii_goto (tgt := 57) dX3_compare_53 (by decide) ?_
              cases h
              exact hjj_8
set_option maxHeartbeats 4000000 in
set_option maxRecDepth 100000 in
theorem c_X3_mayJoin (l : Launch) (D : va_G) (cI cJ cZ cH : ClassId) (a_this a_this_alike a_this_house a_this_least a_this_members : Nat) (v_this_alike : Nat → Int32) (v_this_members : Nat → Int32) (p0 : Int32) (p1 : Int32) {res : Int32} (h : F_X3_mayJoin v_this_alike v_this_members p0 p1 = some res) : CTi l yX3_mayJoin wzX3_mayJoin { frames := 0, cells := 0, slots := 0, locals := 0 } D [(cI, .int), (cJ, .long), (cZ, .boolean), (cH, .object "TinHouse$House")] [.ref a_this, .int p0, .int p1] [(a_this, .inr (3, [.ref a_this_house, .ref a_this_alike, .ref a_this_members, .ref a_this_least])), (a_this_alike, .inl (cI, 10, .inl v_this_alike)), (a_this_members, .inl (cI, 10, .inl v_this_members))] res [(a_this, .inr (3, [.ref a_this_house, .ref a_this_alike, .ref a_this_members, .ref a_this_least])), (a_this_alike, .inl (cI, 10, .inl v_this_alike)), (a_this_members, .inl (cI, 10, .inl v_this_members))] := by
  unfold F_X3_mayJoin at h
  refine ii_metZ (own := RX3) (lv0 := [(0, .ref a_this), (1, .int p0), (2, .int p1)]) (by decide) rfl rfl rfl (Nat.le_of_ble_eq_true rfl) (fun {p e s m args below meth c A Q} hQ => ?_)
  refine ii_iload_n 2 dX3_mayJoin_0 rfl ?_
  refine ii_if_lt (tgt := 26) h dX3_mayJoin_1 (by decide) (fun h => ?_) (fun h => ?_)
  · skip
    refine ii_iconst dX3_mayJoin_26 kc0 ?_
    cases h
    exact hQ _ _ dX3_mayJoin_27 (Or.inl rfl)
  · skip
    refine ii_iload_n 2 dX3_mayJoin_4 rfl ?_
    refine ii_aload_n 0 dX3_mayJoin_5 rfl ?_
    refine ii_get (C := RX3) (T := TX3) (N := 4) (ci := 3) izX3 0 rfl rfl 2 (by decide) kX3_15 rfl dX3_mayJoin_6 ?_
    refine ii_alen (v := (10 : Int32)) 2 0 rfl rfl rfl dX3_mayJoin_9 ?_
    refine ii_icmp_ge (tgt := 26) h dX3_mayJoin_10 (by decide) (fun h => ?_) (fun h => ?_)
    · skip
      refine ii_iconst dX3_mayJoin_26 kc0 ?_
      cases h
      exact hQ _ _ dX3_mayJoin_27 (Or.inl rfl)
    · skip
      refine ii_iload_n 1 dX3_mayJoin_13 rfl ?_
      refine ii_if_lt (tgt := 26) h dX3_mayJoin_14 (by decide) (fun h => ?_) (fun h => ?_)
      · skip
        refine ii_iconst dX3_mayJoin_26 kc0 ?_
        cases h
        exact hQ _ _ dX3_mayJoin_27 (Or.inl rfl)
      · skip
        refine ii_iload_n 1 dX3_mayJoin_17 rfl ?_
        refine ii_aload_n 0 dX3_mayJoin_18 rfl ?_
        refine ii_get (C := RX3) (T := TX3) (N := 4) (ci := 3) izX3 0 rfl rfl 1 (by decide) kX3_9 rfl dX3_mayJoin_19 ?_
        refine ii_alen (v := (10 : Int32)) 1 0 rfl rfl rfl dX3_mayJoin_22 ?_
        refine ii_icmp_lt (tgt := 28) h dX3_mayJoin_23 (by decide) (fun h => ?_) (fun h => ?_)
        · skip
          refine ii_aload_n 0 dX3_mayJoin_28 rfl ?_
          refine ii_get (C := RX3) (T := TX3) (N := 4) (ci := 3) izX3 0 rfl rfl 2 (by decide) kX3_15 rfl dX3_mayJoin_29 ?_
          refine ii_iload_n 2 dX3_mayJoin_32 rfl ?_
          refine ii_iald h 2 0 rfl rfl dX3_mayJoin_33 (fun t_1 h => ?_)
          refine ii_jn h (fun j_2 => [(a_this, .inr (3, [.ref a_this_house, .ref a_this_alike, .ref a_this_members, .ref a_this_least])), (a_this_alike, .inl (cI, 10, .inl v_this_alike)), (a_this_members, .inl (cI, 10, .inl v_this_members))]) (fun j_2 => []) 60 (fun j_2 => [.int j_2]) (fun j_2 h => ?_) (fun j_2 h hjj_2 => ?_)
          · skip
            refine ii_topB h (fun t_5 hz_6 h => ?_)
            cases h
            exact hQ _ _ dX3_mayJoin_60 hz_6
          · skip
            refine ii_if_eq (tgt := 59) h dX3_mayJoin_34 (by decide) (fun h => ?_) (fun h => ?_)
            · skip
              refine ii_iconst dX3_mayJoin_59 kc0 ?_
              refine ii_lv [] rfl ?_
              cases h
              exact hjj_2
            · skip
              refine ii_aload_n 0 dX3_mayJoin_37 rfl ?_
              refine ii_get (C := RX3) (T := TX3) (N := 4) (ci := 3) izX3 0 rfl rfl 2 (by decide) kX3_15 rfl dX3_mayJoin_38 ?_
              refine ii_iload_n 2 dX3_mayJoin_41 rfl ?_
              refine ii_iald h 2 0 rfl rfl dX3_mayJoin_42 (fun t_3 h => ?_)
              refine ii_aload_n 0 dX3_mayJoin_43 rfl ?_
              refine ii_get (C := RX3) (T := TX3) (N := 4) (ci := 3) izX3 0 rfl rfl 1 (by decide) kX3_9 rfl dX3_mayJoin_44 ?_
              refine ii_iload_n 1 dX3_mayJoin_47 rfl ?_
              refine ii_iald h 1 0 rfl rfl dX3_mayJoin_48 (fun t_4 h => ?_)
              refine ii_iconst dX3_mayJoin_49 kcm1 ?_
              refine ii_ixor dX3_mayJoin_50 ?_
              refine ii_iand dX3_mayJoin_51 ?_
              refine ii_if_ne (tgt := 59) h dX3_mayJoin_52 (by decide) (fun h => ?_) (fun h => ?_)
              · skip
                refine ii_iconst dX3_mayJoin_59 kc0 ?_
                refine ii_lv [] rfl ?_
                cases h
                exact hjj_2
              · skip
                refine ii_iconst dX3_mayJoin_55 kc1 ?_
                refine ii_goto (tgt := 60) dX3_mayJoin_56 (by decide) ?_
                refine ii_lv [] rfl ?_
                cases h
                exact hjj_2
        · skip
          refine ii_iconst dX3_mayJoin_26 kc0 ?_
          cases h
          exact hQ _ _ dX3_mayJoin_27 (Or.inl rfl)
set_option maxHeartbeats 4000000 in
set_option maxRecDepth 100000 in
theorem c_X3_joins (l : Launch) (D : va_G) (cI cJ cZ cH : ClassId) (fS lS : Nat) (FS : (Nat → Int32) → Int32 → (Nat → Int32) → (Nat → Int32) → Int32 → Int32 → Option (Int32 × (Nat → Int32) × (Nat → Int32))) (hS : ∀ (a_this a_this_alike a_this_house a_this_house_acts a_this_house_debts a_this_house_gates a_this_house_letters a_this_house_loads a_this_house_mentions a_this_house_mentions_cells a_this_house_merchants a_this_house_payments a_this_house_prices a_this_house_purses a_this_house_stones a_this_house_texts a_this_house_told a_this_least a_this_members : Nat) (v_this_alike : Nat → Int32) (v_this_house_mentions_rows : Int32) (v_this_house_names : Int32) (v_this_house_narrow : Int32) (v_this_least : Nat → Int32) (v_this_members : Nat → Int32) (p0 : Int32) (p1 : Int32) {res : Int32 × (Nat → Int32) × (Nat → Int32)}, FS v_this_alike v_this_house_mentions_rows v_this_least v_this_members p0 p1 = some res → CTi l yX3_settle wzX3_settle { frames := fS, cells := 0, slots := 0, locals := lS } D [(cI, .int), (cJ, .long), (cZ, .boolean), (cH, .object "TinHouse$House")] [.ref a_this, .int p0, .int p1] [(a_this, .inr (3, [.ref a_this_house, .ref a_this_alike, .ref a_this_members, .ref a_this_least])), (a_this_alike, .inl (cI, 10, .inl v_this_alike)), (a_this_house, .inr (0, [.ref a_this_house_merchants, .ref a_this_house_texts, .ref a_this_house_acts, .ref a_this_house_debts, .ref a_this_house_payments, .ref a_this_house_purses, .ref a_this_house_gates, .ref a_this_house_stones, .ref a_this_house_told, .ref a_this_house_letters, .ref a_this_house_mentions, .ref a_this_house_loads, .ref a_this_house_prices, .int v_this_house_narrow, .int v_this_house_names])), (a_this_house_mentions, .inr (8, [.int (3 : Int32), .int (10 : Int32), .ref a_this_house_mentions_cells, .int v_this_house_mentions_rows])), (a_this_least, .inl (cI, 10, .inl v_this_least)), (a_this_members, .inl (cI, 10, .inl v_this_members))] res.1 [(a_this, .inr (3, [.ref a_this_house, .ref a_this_alike, .ref a_this_members, .ref a_this_least])), (a_this_alike, .inl (cI, 10, .inl v_this_alike)), (a_this_house, .inr (0, [.ref a_this_house_merchants, .ref a_this_house_texts, .ref a_this_house_acts, .ref a_this_house_debts, .ref a_this_house_payments, .ref a_this_house_purses, .ref a_this_house_gates, .ref a_this_house_stones, .ref a_this_house_told, .ref a_this_house_letters, .ref a_this_house_mentions, .ref a_this_house_loads, .ref a_this_house_prices, .int v_this_house_narrow, .int v_this_house_names])), (a_this_house_mentions, .inr (8, [.int (3 : Int32), .int (10 : Int32), .ref a_this_house_mentions_cells, .int v_this_house_mentions_rows])), (a_this_least, .inl (cI, 10, .inl res.2.1)), (a_this_members, .inl (cI, 10, .inl res.2.2))]) (a_this a_this_alike a_this_house a_this_house_acts a_this_house_debts a_this_house_gates a_this_house_letters a_this_house_loads a_this_house_mentions a_this_house_mentions_cells a_this_house_merchants a_this_house_payments a_this_house_prices a_this_house_purses a_this_house_stones a_this_house_texts a_this_house_told a_this_least a_this_members : Nat) (v_this_alike : Nat → Int32) (v_this_house_mentions_rows : Int32) (v_this_house_names : Int32) (v_this_house_narrow : Int32) (v_this_least : Nat → Int32) (v_this_members : Nat → Int32) (p0 : Int32) (p1 : Int32) (p2 : Int32) {res : Int32 × (Nat → Int32) × (Nat → Int32)} (h : F_X3_joins FS v_this_alike v_this_house_mentions_rows v_this_least v_this_members p0 p1 p2 = some res) : CTi l yX3_joins wzX3_joins { frames := fS + 1, cells := 0, slots := 0, locals := lS + 40 } D [(cI, .int), (cJ, .long), (cZ, .boolean), (cH, .object "TinHouse$House")] [.ref a_this, .int p0, .int p1, .int p2] [(a_this, .inr (3, [.ref a_this_house, .ref a_this_alike, .ref a_this_members, .ref a_this_least])), (a_this_alike, .inl (cI, 10, .inl v_this_alike)), (a_this_house, .inr (0, [.ref a_this_house_merchants, .ref a_this_house_texts, .ref a_this_house_acts, .ref a_this_house_debts, .ref a_this_house_payments, .ref a_this_house_purses, .ref a_this_house_gates, .ref a_this_house_stones, .ref a_this_house_told, .ref a_this_house_letters, .ref a_this_house_mentions, .ref a_this_house_loads, .ref a_this_house_prices, .int v_this_house_narrow, .int v_this_house_names])), (a_this_house_mentions, .inr (8, [.int (3 : Int32), .int (10 : Int32), .ref a_this_house_mentions_cells, .int v_this_house_mentions_rows])), (a_this_least, .inl (cI, 10, .inl v_this_least)), (a_this_members, .inl (cI, 10, .inl v_this_members))] res.1 [(a_this, .inr (3, [.ref a_this_house, .ref a_this_alike, .ref a_this_members, .ref a_this_least])), (a_this_alike, .inl (cI, 10, .inl v_this_alike)), (a_this_house, .inr (0, [.ref a_this_house_merchants, .ref a_this_house_texts, .ref a_this_house_acts, .ref a_this_house_debts, .ref a_this_house_payments, .ref a_this_house_purses, .ref a_this_house_gates, .ref a_this_house_stones, .ref a_this_house_told, .ref a_this_house_letters, .ref a_this_house_mentions, .ref a_this_house_loads, .ref a_this_house_prices, .int v_this_house_narrow, .int v_this_house_names])), (a_this_house_mentions, .inr (8, [.int (3 : Int32), .int (10 : Int32), .ref a_this_house_mentions_cells, .int v_this_house_mentions_rows])), (a_this_least, .inl (cI, 10, .inl res.2.1)), (a_this_members, .inl (cI, 10, .inl res.2.2))] := by
  unfold F_X3_joins at h
  refine ii_metZ (own := RX3) (lv0 := [(0, .ref a_this), (1, .int p0), (2, .int p1), (3, .int p2)]) (by decide) rfl rfl rfl (Nat.le_of_ble_eq_true rfl) (fun {p e s m args below meth c A Q} hQ => ?_)
  refine ii_iload_n 2 dX3_joins_0 rfl ?_
  refine ii_if_lt (tgt := 26) h dX3_joins_1 (by decide) (fun h => ?_) (fun h => ?_)
  · skip
    refine ii_iconst dX3_joins_26 kc0 ?_
    cases h
    exact hQ _ _ dX3_joins_27 (Or.inl rfl)
  · skip
    refine ii_iload_n 2 dX3_joins_4 rfl ?_
    refine ii_aload_n 0 dX3_joins_5 rfl ?_
    refine ii_get (C := RX3) (T := TX3) (N := 4) (ci := 3) izX3 0 rfl rfl 2 (by decide) kX3_15 rfl dX3_joins_6 ?_
    refine ii_alen (v := (10 : Int32)) 5 0 rfl rfl rfl dX3_joins_9 ?_
    refine ii_icmp_ge (tgt := 26) h dX3_joins_10 (by decide) (fun h => ?_) (fun h => ?_)
    · skip
      refine ii_iconst dX3_joins_26 kc0 ?_
      cases h
      exact hQ _ _ dX3_joins_27 (Or.inl rfl)
    · skip
      refine ii_iload_n 1 dX3_joins_13 rfl ?_
      refine ii_if_lt (tgt := 26) h dX3_joins_14 (by decide) (fun h => ?_) (fun h => ?_)
      · skip
        refine ii_iconst dX3_joins_26 kc0 ?_
        cases h
        exact hQ _ _ dX3_joins_27 (Or.inl rfl)
      · skip
        refine ii_iload_n 1 dX3_joins_17 rfl ?_
        refine ii_aload_n 0 dX3_joins_18 rfl ?_
        refine ii_get (C := RX3) (T := TX3) (N := 4) (ci := 3) izX3 0 rfl rfl 3 (by decide) kX3_18 rfl dX3_joins_19 ?_
        refine ii_alen (v := (10 : Int32)) 4 0 rfl rfl rfl dX3_joins_22 ?_
        refine ii_icmp_lt (tgt := 28) h dX3_joins_23 (by decide) (fun h => ?_) (fun h => ?_)
        · skip
          refine ii_aload_n 0 dX3_joins_28 rfl ?_
          refine ii_get (C := RX3) (T := TX3) (N := 4) (ci := 3) izX3 0 rfl rfl 2 (by decide) kX3_15 rfl dX3_joins_29 ?_
          refine ii_iload_n 2 dX3_joins_32 rfl ?_
          refine ii_dup2 dX3_joins_33 rfl rfl ?_
          refine ii_iald h 5 0 rfl rfl dX3_joins_34 (fun t_1 h => ?_)
          refine ii_iconst dX3_joins_35 kc1 ?_
          refine ii_iload_n 1 dX3_joins_36 rfl ?_
          refine ii_ishl dX3_joins_37 ?_
          refine ii_ior dX3_joins_38 ?_
          refine ii_iast (fun g_2 => [(a_this, .inr (3, [.ref a_this_house, .ref a_this_alike, .ref a_this_members, .ref a_this_least])), (a_this_alike, .inl (cI, 10, .inl v_this_alike)), (a_this_house, .inr (0, [.ref a_this_house_merchants, .ref a_this_house_texts, .ref a_this_house_acts, .ref a_this_house_debts, .ref a_this_house_payments, .ref a_this_house_purses, .ref a_this_house_gates, .ref a_this_house_stones, .ref a_this_house_told, .ref a_this_house_letters, .ref a_this_house_mentions, .ref a_this_house_loads, .ref a_this_house_prices, .int v_this_house_narrow, .int v_this_house_names])), (a_this_house_mentions, .inr (8, [.int (3 : Int32), .int (10 : Int32), .ref a_this_house_mentions_cells, .int v_this_house_mentions_rows])), (a_this_least, .inl (cI, 10, .inl v_this_least)), (a_this_members, .inl (cI, 10, .inl g_2))]) h 5 0 rfl rfl dX3_joins_39 (fun _ => rfl) (fun g_2 h => ?_)
          refine ii_aload_n 0 dX3_joins_40 rfl ?_
          refine ii_get (C := RX3) (T := TX3) (N := 4) (ci := 3) izX3 0 rfl rfl 3 (by decide) kX3_18 rfl dX3_joins_41 ?_
          refine ii_iload_n 1 dX3_joins_44 rfl ?_
          refine ii_iload_n 2 dX3_joins_45 rfl ?_
          refine ii_iast (fun g_3 => [(a_this, .inr (3, [.ref a_this_house, .ref a_this_alike, .ref a_this_members, .ref a_this_least])), (a_this_alike, .inl (cI, 10, .inl v_this_alike)), (a_this_house, .inr (0, [.ref a_this_house_merchants, .ref a_this_house_texts, .ref a_this_house_acts, .ref a_this_house_debts, .ref a_this_house_payments, .ref a_this_house_purses, .ref a_this_house_gates, .ref a_this_house_stones, .ref a_this_house_told, .ref a_this_house_letters, .ref a_this_house_mentions, .ref a_this_house_loads, .ref a_this_house_prices, .int v_this_house_narrow, .int v_this_house_names])), (a_this_house_mentions, .inr (8, [.int (3 : Int32), .int (10 : Int32), .ref a_this_house_mentions_cells, .int v_this_house_mentions_rows])), (a_this_least, .inl (cI, 10, .inl g_3)), (a_this_members, .inl (cI, 10, .inl g_2))]) h 4 0 rfl rfl dX3_joins_46 (fun _ => rfl) (fun g_3 h => ?_)
          refine ii_aload_n 0 dX3_joins_47 rfl ?_
          refine ii_iload_n 1 dX3_joins_48 rfl ?_
          refine ii_iconst dX3_joins_49 kc1 ?_
          refine ii_iadd dX3_joins_50 ?_
          refine ii_iload_n 3 dX3_joins_51 rfl ?_
          obtain ⟨c_4, hc_4, h⟩ := bnd h
          refine ii_callVi (As := [.int (p0 + (1 : Int32)), .int p2]) (ws' := [(a_this, .inr (3, [.ref a_this_house, .ref a_this_alike, .ref a_this_members, .ref a_this_least])), (a_this_alike, .inl (cI, 10, .inl v_this_alike)), (a_this_house, .inr (0, [.ref a_this_house_merchants, .ref a_this_house_texts, .ref a_this_house_acts, .ref a_this_house_debts, .ref a_this_house_payments, .ref a_this_house_purses, .ref a_this_house_gates, .ref a_this_house_stones, .ref a_this_house_told, .ref a_this_house_letters, .ref a_this_house_mentions, .ref a_this_house_loads, .ref a_this_house_prices, .int v_this_house_narrow, .int v_this_house_names])), (a_this_house_mentions, .inr (8, [.int (3 : Int32), .int (10 : Int32), .ref a_this_house_mentions_cells, .int v_this_house_mentions_rows])), (a_this_least, .inl (cI, 10, .inl c_4.2.1)), (a_this_members, .inl (cI, 10, .inl c_4.2.2))]) (st := []) (hS a_this a_this_alike a_this_house a_this_house_acts a_this_house_debts a_this_house_gates a_this_house_letters a_this_house_loads a_this_house_mentions a_this_house_mentions_cells a_this_house_merchants a_this_house_payments a_this_house_prices a_this_house_purses a_this_house_stones a_this_house_texts a_this_house_told a_this_least a_this_members v_this_alike v_this_house_mentions_rows v_this_house_names v_this_house_narrow g_3 g_2 (p0 + (1 : Int32)) p2 hc_4) gzX3_34 rfl rfl rfl eV_X3_settle ⟨by dsimp only; omega, by dsimp only; omega⟩ rfl 0 rfl rfl [0, 1, 2, 3, 4, 5] rfl rfl rfl rfl rfl (Nat.le_of_ble_eq_true rfl) (Nat.le_refl _) (Nat.le_refl _) rfl dX3_joins_52 ?_
          refine ii_if_eq (tgt := 60) h dX3_joins_55 (by decide) (fun h => ?_) (fun h => ?_)
          · skip
            refine ii_aload_n 0 dX3_joins_60 rfl ?_
            refine ii_get (C := RX3) (T := TX3) (N := 4) (ci := 3) izX3 0 rfl rfl 2 (by decide) kX3_15 rfl dX3_joins_61 ?_
            refine ii_iload_n 2 dX3_joins_64 rfl ?_
            refine ii_dup2 dX3_joins_65 rfl rfl ?_
            refine ii_iald h 5 0 rfl rfl dX3_joins_66 (fun t_5 h => ?_)
            refine ii_iconst dX3_joins_67 kc1 ?_
            refine ii_iload_n 1 dX3_joins_68 rfl ?_
            refine ii_ishl dX3_joins_69 ?_
            refine ii_iconst dX3_joins_70 kcm1 ?_
            refine ii_ixor dX3_joins_71 ?_
            refine ii_iand dX3_joins_72 ?_
            refine ii_iast (fun g_6 => [(a_this, .inr (3, [.ref a_this_house, .ref a_this_alike, .ref a_this_members, .ref a_this_least])), (a_this_alike, .inl (cI, 10, .inl v_this_alike)), (a_this_house, .inr (0, [.ref a_this_house_merchants, .ref a_this_house_texts, .ref a_this_house_acts, .ref a_this_house_debts, .ref a_this_house_payments, .ref a_this_house_purses, .ref a_this_house_gates, .ref a_this_house_stones, .ref a_this_house_told, .ref a_this_house_letters, .ref a_this_house_mentions, .ref a_this_house_loads, .ref a_this_house_prices, .int v_this_house_narrow, .int v_this_house_names])), (a_this_house_mentions, .inr (8, [.int (3 : Int32), .int (10 : Int32), .ref a_this_house_mentions_cells, .int v_this_house_mentions_rows])), (a_this_least, .inl (cI, 10, .inl c_4.2.1)), (a_this_members, .inl (cI, 10, .inl g_6))]) h 5 0 rfl rfl dX3_joins_73 (fun _ => rfl) (fun g_6 h => ?_)
            refine ii_iconst dX3_joins_74 kc0 ?_
            cases h
            exact hQ _ _ dX3_joins_75 (Or.inl rfl)
          · skip
            refine ii_iconst dX3_joins_58 kc1 ?_
            cases h
            exact hQ _ _ dX3_joins_59 (Or.inr rfl)
        · skip
          refine ii_iconst dX3_joins_26 kc0 ?_
          cases h
          exact hQ _ _ dX3_joins_27 (Or.inl rfl)
set_option maxHeartbeats 4000000 in
set_option maxRecDepth 100000 in
theorem c_X3_settle1 (l : Launch) (D : va_G) (cI cJ cZ cH : ClassId) (fS lS : Nat) (FS : (Nat → Int32) → Int32 → (Nat → Int32) → (Nat → Int32) → Int32 → Int32 → Option (Int32 × (Nat → Int32) × (Nat → Int32))) (hS : ∀ (a_this a_this_alike a_this_house a_this_house_acts a_this_house_debts a_this_house_gates a_this_house_letters a_this_house_loads a_this_house_mentions a_this_house_mentions_cells a_this_house_merchants a_this_house_payments a_this_house_prices a_this_house_purses a_this_house_stones a_this_house_texts a_this_house_told a_this_least a_this_members : Nat) (v_this_alike : Nat → Int32) (v_this_house_mentions_rows : Int32) (v_this_house_names : Int32) (v_this_house_narrow : Int32) (v_this_least : Nat → Int32) (v_this_members : Nat → Int32) (p0 : Int32) (p1 : Int32) {res : Int32 × (Nat → Int32) × (Nat → Int32)}, FS v_this_alike v_this_house_mentions_rows v_this_least v_this_members p0 p1 = some res → CTi l yX3_settle wzX3_settle { frames := fS, cells := 0, slots := 0, locals := lS } D [(cI, .int), (cJ, .long), (cZ, .boolean), (cH, .object "TinHouse$House")] [.ref a_this, .int p0, .int p1] [(a_this, .inr (3, [.ref a_this_house, .ref a_this_alike, .ref a_this_members, .ref a_this_least])), (a_this_alike, .inl (cI, 10, .inl v_this_alike)), (a_this_house, .inr (0, [.ref a_this_house_merchants, .ref a_this_house_texts, .ref a_this_house_acts, .ref a_this_house_debts, .ref a_this_house_payments, .ref a_this_house_purses, .ref a_this_house_gates, .ref a_this_house_stones, .ref a_this_house_told, .ref a_this_house_letters, .ref a_this_house_mentions, .ref a_this_house_loads, .ref a_this_house_prices, .int v_this_house_narrow, .int v_this_house_names])), (a_this_house_mentions, .inr (8, [.int (3 : Int32), .int (10 : Int32), .ref a_this_house_mentions_cells, .int v_this_house_mentions_rows])), (a_this_least, .inl (cI, 10, .inl v_this_least)), (a_this_members, .inl (cI, 10, .inl v_this_members))] res.1 [(a_this, .inr (3, [.ref a_this_house, .ref a_this_alike, .ref a_this_members, .ref a_this_least])), (a_this_alike, .inl (cI, 10, .inl v_this_alike)), (a_this_house, .inr (0, [.ref a_this_house_merchants, .ref a_this_house_texts, .ref a_this_house_acts, .ref a_this_house_debts, .ref a_this_house_payments, .ref a_this_house_purses, .ref a_this_house_gates, .ref a_this_house_stones, .ref a_this_house_told, .ref a_this_house_letters, .ref a_this_house_mentions, .ref a_this_house_loads, .ref a_this_house_prices, .int v_this_house_narrow, .int v_this_house_names])), (a_this_house_mentions, .inr (8, [.int (3 : Int32), .int (10 : Int32), .ref a_this_house_mentions_cells, .int v_this_house_mentions_rows])), (a_this_least, .inl (cI, 10, .inl res.2.1)), (a_this_members, .inl (cI, 10, .inl res.2.2))]) (a_this a_this_alike a_this_house a_this_house_acts a_this_house_debts a_this_house_gates a_this_house_letters a_this_house_loads a_this_house_mentions a_this_house_mentions_cells a_this_house_merchants a_this_house_payments a_this_house_prices a_this_house_purses a_this_house_stones a_this_house_texts a_this_house_told a_this_least a_this_members : Nat) (v_this_alike : Nat → Int32) (v_this_house_mentions_rows : Int32) (v_this_house_names : Int32) (v_this_house_narrow : Int32) (v_this_least : Nat → Int32) (v_this_members : Nat → Int32) (p0 : Int32) (p1 : Int32) {res : Int32 × (Nat → Int32) × (Nat → Int32)} (h : F_X3_settle1 FS v_this_alike v_this_house_mentions_rows v_this_least v_this_members p0 p1 = some res) : CTi l yX3_settle wzX3_settle { frames := fS + 2, cells := 0, slots := 0, locals := lS + 100 } D [(cI, .int), (cJ, .long), (cZ, .boolean), (cH, .object "TinHouse$House")] [.ref a_this, .int p0, .int p1] [(a_this, .inr (3, [.ref a_this_house, .ref a_this_alike, .ref a_this_members, .ref a_this_least])), (a_this_alike, .inl (cI, 10, .inl v_this_alike)), (a_this_house, .inr (0, [.ref a_this_house_merchants, .ref a_this_house_texts, .ref a_this_house_acts, .ref a_this_house_debts, .ref a_this_house_payments, .ref a_this_house_purses, .ref a_this_house_gates, .ref a_this_house_stones, .ref a_this_house_told, .ref a_this_house_letters, .ref a_this_house_mentions, .ref a_this_house_loads, .ref a_this_house_prices, .int v_this_house_narrow, .int v_this_house_names])), (a_this_house_mentions, .inr (8, [.int (3 : Int32), .int (10 : Int32), .ref a_this_house_mentions_cells, .int v_this_house_mentions_rows])), (a_this_least, .inl (cI, 10, .inl v_this_least)), (a_this_members, .inl (cI, 10, .inl v_this_members))] res.1 [(a_this, .inr (3, [.ref a_this_house, .ref a_this_alike, .ref a_this_members, .ref a_this_least])), (a_this_alike, .inl (cI, 10, .inl v_this_alike)), (a_this_house, .inr (0, [.ref a_this_house_merchants, .ref a_this_house_texts, .ref a_this_house_acts, .ref a_this_house_debts, .ref a_this_house_payments, .ref a_this_house_purses, .ref a_this_house_gates, .ref a_this_house_stones, .ref a_this_house_told, .ref a_this_house_letters, .ref a_this_house_mentions, .ref a_this_house_loads, .ref a_this_house_prices, .int v_this_house_narrow, .int v_this_house_names])), (a_this_house_mentions, .inr (8, [.int (3 : Int32), .int (10 : Int32), .ref a_this_house_mentions_cells, .int v_this_house_mentions_rows])), (a_this_least, .inl (cI, 10, .inl res.2.1)), (a_this_members, .inl (cI, 10, .inl res.2.2))] := by
  unfold F_X3_settle1 at h
  refine ii_metZ (own := RX3) (lv0 := [(0, .ref a_this), (1, .int p0), (2, .int p1)]) (by decide) rfl rfl rfl (Nat.le_of_ble_eq_true rfl) (fun {p e s m args below meth c A Q} hQ => ?_)
  refine ii_iload_n 1 dX3_settle_0 rfl ?_
  refine ii_aload_n 0 dX3_settle_1 rfl ?_
  refine ii_get (C := RX3) (T := TX3) (N := 4) (ci := 3) izX3 0 rfl rfl 0 (by decide) kX3_21 rfl dX3_settle_2 ?_
  refine ii_get (C := RX0) (T := TX0) (N := 15) (ci := 0) izX0 2 rfl rfl 10 (by decide) kX3_38 rfl dX3_settle_5 ?_
  refine ii_get (C := RX8) (T := TX8) (N := 4) (ci := 8) izX8 3 rfl rfl 3 (by decide) kX3_44 rfl dX3_settle_8 ?_
  refine ii_icmp_ge (tgt := 32) h dX3_settle_11 (by decide) (fun h => ?_) (fun h => ?_)
  · skip
    refine ii_iconst dX3_settle_32 kc1 ?_
    cases h
    exact hQ _ _ dX3_settle_33 (Or.inr rfl)
  · skip
    refine ii_iload_n 1 dX3_settle_14 rfl ?_
    refine ii_aload_n 0 dX3_settle_15 rfl ?_
    refine ii_get (C := RX3) (T := TX3) (N := 4) (ci := 3) izX3 0 rfl rfl 2 (by decide) kX3_15 rfl dX3_settle_16 ?_
    refine ii_alen (v := (10 : Int32)) 5 0 rfl rfl rfl dX3_settle_19 ?_
    refine ii_icmp_ge (tgt := 32) h dX3_settle_20 (by decide) (fun h => ?_) (fun h => ?_)
    · skip
      refine ii_iconst dX3_settle_32 kc1 ?_
      cases h
      exact hQ _ _ dX3_settle_33 (Or.inr rfl)
    · skip
      refine ii_iload_n 1 dX3_settle_23 rfl ?_
      refine ii_aload_n 0 dX3_settle_24 rfl ?_
      refine ii_get (C := RX3) (T := TX3) (N := 4) (ci := 3) izX3 0 rfl rfl 3 (by decide) kX3_18 rfl dX3_settle_25 ?_
      refine ii_alen (v := (10 : Int32)) 4 0 rfl rfl rfl dX3_settle_28 ?_
      refine ii_icmp_lt (tgt := 34) h dX3_settle_29 (by decide) (fun h => ?_) (fun h => ?_)
      · skip
        refine ii_iload_n 1 dX3_settle_34 rfl ?_
        refine ii_if_lt (tgt := 42) h dX3_settle_35 (by decide) (fun h => ?_) (fun h => ?_)
        · skip
          refine ii_iconst dX3_settle_42 kc0 ?_
          cases h
          exact hQ _ _ dX3_settle_43 (Or.inl rfl)
        · skip
          refine ii_iload_n 2 dX3_settle_38 rfl ?_
          refine ii_if_ge (tgt := 44) h dX3_settle_39 (by decide) (fun h => ?_) (fun h => ?_)
          · skip
            refine ii_iconst dX3_settle_44 kc0 ?_
            refine ii_istore_n (lv' := [(3, .int (0 : Int32)), (0, .ref a_this), (1, .int p0), (2, .int p1)]) dX3_settle_45 rfl (by decide) rfl ?_
            refine ii_lv [1, 2, 3, 0] rfl ?_
            obtain ⟨x_2, hl_1, ha_1⟩ := bnd h
            refine ii_loopR (fun s_1 => [(a_this, .inr (3, [.ref a_this_house, .ref a_this_alike, .ref a_this_members, .ref a_this_least])), (a_this_alike, .inl (cI, 10, .inl v_this_alike)), (a_this_house, .inr (0, [.ref a_this_house_merchants, .ref a_this_house_texts, .ref a_this_house_acts, .ref a_this_house_debts, .ref a_this_house_payments, .ref a_this_house_purses, .ref a_this_house_gates, .ref a_this_house_stones, .ref a_this_house_told, .ref a_this_house_letters, .ref a_this_house_mentions, .ref a_this_house_loads, .ref a_this_house_prices, .int v_this_house_narrow, .int v_this_house_names])), (a_this_house_mentions, .inr (8, [.int (3 : Int32), .int (10 : Int32), .ref a_this_house_mentions_cells, .int v_this_house_mentions_rows])), (a_this_least, .inl (cI, 10, .inl s_1.2.1)), (a_this_members, .inl (cI, 10, .inl s_1.2.2))]) (fun s_1 => [(0, .ref a_this), (1, .int p0), (2, .int p1), (3, .int s_1.1)]) (fun y_3 => [(a_this, .inr (3, [.ref a_this_house, .ref a_this_alike, .ref a_this_members, .ref a_this_least])), (a_this_alike, .inl (cI, 10, .inl v_this_alike)), (a_this_house, .inr (0, [.ref a_this_house_merchants, .ref a_this_house_texts, .ref a_this_house_acts, .ref a_this_house_debts, .ref a_this_house_payments, .ref a_this_house_purses, .ref a_this_house_gates, .ref a_this_house_stones, .ref a_this_house_told, .ref a_this_house_letters, .ref a_this_house_mentions, .ref a_this_house_loads, .ref a_this_house_prices, .int v_this_house_narrow, .int v_this_house_names])), (a_this_house_mentions, .inr (8, [.int (3 : Int32), .int (10 : Int32), .ref a_this_house_mentions_cells, .int v_this_house_mentions_rows])), (a_this_least, .inl (cI, 10, .inl y_3.2.1)), (a_this_members, .inl (cI, 10, .inl y_3.2.2))]) (fun y_3 => [(0, .ref a_this), (1, .int p0), (2, .int p1)]) 78 hl_1 rfl rfl (fun y_3 hy => ?_) (fun s_1 o h hb_1 hr_1 hx_1 => ?_)
            · skip
              subst hy
              have h := sm_l ha_1
              refine ii_iload_n 2 dX3_settle_78 rfl ?_
              refine ii_jn h (fun j_8 => [(a_this, .inr (3, [.ref a_this_house, .ref a_this_alike, .ref a_this_members, .ref a_this_least])), (a_this_alike, .inl (cI, 10, .inl v_this_alike)), (a_this_house, .inr (0, [.ref a_this_house_merchants, .ref a_this_house_texts, .ref a_this_house_acts, .ref a_this_house_debts, .ref a_this_house_payments, .ref a_this_house_purses, .ref a_this_house_gates, .ref a_this_house_stones, .ref a_this_house_told, .ref a_this_house_letters, .ref a_this_house_mentions, .ref a_this_house_loads, .ref a_this_house_prices, .int v_this_house_narrow, .int v_this_house_names])), (a_this_house_mentions, .inr (8, [.int (3 : Int32), .int (10 : Int32), .ref a_this_house_mentions_cells, .int v_this_house_mentions_rows])), (a_this_least, .inl (cI, 10, .inl j_8.2.1)), (a_this_members, .inl (cI, 10, .inl j_8.2.2))]) (fun j_8 => []) 99 (fun j_8 => [.int j_8.1]) (fun j_8 h => ?_) (fun j_8 h hjj_8 => ?_)
              · skip
                refine ii_topB h (fun t_10 hz_11 h => ?_)
                cases h
                exact hQ _ _ dX3_settle_99 hz_11
              · skip
                refine ii_if_le (tgt := 98) h dX3_settle_79 (by decide) (fun h => ?_) (fun h => ?_)
                · skip
                  refine ii_iconst dX3_settle_98 kc0 ?_
                  refine ii_lv [] rfl ?_
                  cases h
                  exact hjj_8
                · skip
                  refine ii_aload_n 0 dX3_settle_82 rfl ?_
                  refine ii_iload_n 1 dX3_settle_83 rfl ?_
                  refine ii_iload_n 1 dX3_settle_84 rfl ?_
                  refine ii_iload_n 2 dX3_settle_85 rfl ?_
                  refine ii_iconst dX3_settle_86 kc1 ?_
                  refine ii_isub dX3_settle_87 ?_
                  obtain ⟨c_9, hc_9, h⟩ := bnd h
                  refine ii_callVi (As := [.int p0, .int p0, .int (p1 - (1 : Int32))]) (ws' := [(a_this, .inr (3, [.ref a_this_house, .ref a_this_alike, .ref a_this_members, .ref a_this_least])), (a_this_alike, .inl (cI, 10, .inl v_this_alike)), (a_this_house, .inr (0, [.ref a_this_house_merchants, .ref a_this_house_texts, .ref a_this_house_acts, .ref a_this_house_debts, .ref a_this_house_payments, .ref a_this_house_purses, .ref a_this_house_gates, .ref a_this_house_stones, .ref a_this_house_told, .ref a_this_house_letters, .ref a_this_house_mentions, .ref a_this_house_loads, .ref a_this_house_prices, .int v_this_house_narrow, .int v_this_house_names])), (a_this_house_mentions, .inr (8, [.int (3 : Int32), .int (10 : Int32), .ref a_this_house_mentions_cells, .int v_this_house_mentions_rows])), (a_this_least, .inl (cI, 10, .inl c_9.2.1)), (a_this_members, .inl (cI, 10, .inl c_9.2.2))]) (st := []) (c_X3_joins l D cI cJ cZ cH fS lS FS hS a_this a_this_alike a_this_house a_this_house_acts a_this_house_debts a_this_house_gates a_this_house_letters a_this_house_loads a_this_house_mentions a_this_house_mentions_cells a_this_house_merchants a_this_house_payments a_this_house_prices a_this_house_purses a_this_house_stones a_this_house_texts a_this_house_told a_this_least a_this_members v_this_alike v_this_house_mentions_rows v_this_house_names v_this_house_narrow y_3.2.1 y_3.2.2 p0 p0 (p1 - (1 : Int32)) hc_9) gzX3_70 rfl rfl rfl eV_X3_joins ⟨by dsimp only; omega, by dsimp only; omega⟩ rfl 0 rfl rfl [0, 1, 2, 3, 4, 5] rfl rfl rfl rfl rfl (Nat.le_of_ble_eq_true rfl) (Nat.le_refl _) (Nat.le_refl _) rfl dX3_settle_88 ?_
                  refine ii_if_eq (tgt := 98) h dX3_settle_91 (by decide) (fun h => ?_) (fun h => ?_)
                  · skip
                    refine ii_iconst dX3_settle_98 kc0 ?_
                    refine ii_lv [] rfl ?_
                    cases h
                    exact hjj_8
                  · skip
                    refine ii_iconst dX3_settle_94 kc1 ?_
                    refine ii_goto (tgt := 99) dX3_settle_95 (by decide) ?_
                    refine ii_lv [] rfl ?_
                    cases h
                    exact hjj_8
            · skip
              refine ii_iload_n 3 dX3_settle_46 rfl ?_
              refine ii_iload_n 1 dX3_settle_47 rfl ?_
              refine ii_icmp_ge (tgt := 78) h dX3_settle_48 (by decide) (fun h => ?_) (fun h => ?_)
              · skip
                refine ii_lv [0, 1, 2] rfl ?_
                cases h
                exact hx_1 (s_1.1, s_1.2.1, s_1.2.2) (hr_1 _ rfl)
              · skip
                refine ii_aload_n 0 dX3_settle_51 rfl ?_
                refine ii_iload_n 1 dX3_settle_52 rfl ?_
                refine ii_iload_n 3 dX3_settle_53 rfl ?_
                obtain ⟨c_4, hc_4, h⟩ := bnd h
                refine ii_callVi (As := [.int p0, .int s_1.1]) (ws' := [(a_this, .inr (3, [.ref a_this_house, .ref a_this_alike, .ref a_this_members, .ref a_this_least])), (a_this_alike, .inl (cI, 10, .inl v_this_alike)), (a_this_house, .inr (0, [.ref a_this_house_merchants, .ref a_this_house_texts, .ref a_this_house_acts, .ref a_this_house_debts, .ref a_this_house_payments, .ref a_this_house_purses, .ref a_this_house_gates, .ref a_this_house_stones, .ref a_this_house_told, .ref a_this_house_letters, .ref a_this_house_mentions, .ref a_this_house_loads, .ref a_this_house_prices, .int v_this_house_narrow, .int v_this_house_names])), (a_this_house_mentions, .inr (8, [.int (3 : Int32), .int (10 : Int32), .ref a_this_house_mentions_cells, .int v_this_house_mentions_rows])), (a_this_least, .inl (cI, 10, .inl s_1.2.1)), (a_this_members, .inl (cI, 10, .inl s_1.2.2))]) (st := []) (c_X3_mayJoin l D cI cJ cZ cH a_this a_this_alike a_this_house a_this_least a_this_members v_this_alike s_1.2.2 p0 s_1.1 hc_4) gzX3_67 rfl rfl rfl eV_X3_mayJoin ⟨by dsimp only; omega, by dsimp only; omega⟩ rfl 0 rfl rfl [0, 1, 5] rfl rfl rfl rfl rfl (Nat.le_of_ble_eq_true rfl) (Nat.le_refl _) (Nat.le_refl _) rfl dX3_settle_54 ?_
                refine ii_if_eq (tgt := 72) h dX3_settle_57 (by decide) (fun h => ?_) (fun h => ?_)
                · skip
                  refine ii_iinc (fun x_5 => [(3, .int x_5), (0, .ref a_this), (1, .int p0), (2, .int p1)]) h 3 dX3_settle_72 rfl kc1 (by decide) (fun _ => rfl) (fun x_5 h => ?_)
                  refine ii_goto (tgt := 46) dX3_settle_75 (by decide) ?_
                  refine ii_lv [1, 2, 3, 0] rfl ?_
                  cases h
                  exact hb_1 (x_5, s_1.2.1, s_1.2.2) rfl
                · skip
                  refine ii_aload_n 0 dX3_settle_60 rfl ?_
                  refine ii_iload_n 1 dX3_settle_61 rfl ?_
                  refine ii_iload_n 3 dX3_settle_62 rfl ?_
                  refine ii_iload_n 2 dX3_settle_63 rfl ?_
                  obtain ⟨c_6, hc_6, h⟩ := bnd h
                  refine ii_callVi (As := [.int p0, .int s_1.1, .int p1]) (ws' := [(a_this, .inr (3, [.ref a_this_house, .ref a_this_alike, .ref a_this_members, .ref a_this_least])), (a_this_alike, .inl (cI, 10, .inl v_this_alike)), (a_this_house, .inr (0, [.ref a_this_house_merchants, .ref a_this_house_texts, .ref a_this_house_acts, .ref a_this_house_debts, .ref a_this_house_payments, .ref a_this_house_purses, .ref a_this_house_gates, .ref a_this_house_stones, .ref a_this_house_told, .ref a_this_house_letters, .ref a_this_house_mentions, .ref a_this_house_loads, .ref a_this_house_prices, .int v_this_house_narrow, .int v_this_house_names])), (a_this_house_mentions, .inr (8, [.int (3 : Int32), .int (10 : Int32), .ref a_this_house_mentions_cells, .int v_this_house_mentions_rows])), (a_this_least, .inl (cI, 10, .inl c_6.2.1)), (a_this_members, .inl (cI, 10, .inl c_6.2.2))]) (st := []) (c_X3_joins l D cI cJ cZ cH fS lS FS hS a_this a_this_alike a_this_house a_this_house_acts a_this_house_debts a_this_house_gates a_this_house_letters a_this_house_loads a_this_house_mentions a_this_house_mentions_cells a_this_house_merchants a_this_house_payments a_this_house_prices a_this_house_purses a_this_house_stones a_this_house_texts a_this_house_told a_this_least a_this_members v_this_alike v_this_house_mentions_rows v_this_house_names v_this_house_narrow s_1.2.1 s_1.2.2 p0 s_1.1 p1 hc_6) gzX3_70 rfl rfl rfl eV_X3_joins ⟨by dsimp only; omega, by dsimp only; omega⟩ rfl 0 rfl rfl [0, 1, 2, 3, 4, 5] rfl rfl rfl rfl rfl (Nat.le_of_ble_eq_true rfl) (Nat.le_refl _) (Nat.le_refl _) rfl dX3_settle_64 ?_
                  refine ii_if_eq (tgt := 72) h dX3_settle_67 (by decide) (fun h => ?_) (fun h => ?_)
                  · skip
                    refine ii_iinc (fun x_7 => [(3, .int x_7), (0, .ref a_this), (1, .int p0), (2, .int p1)]) h 3 dX3_settle_72 rfl kc1 (by decide) (fun _ => rfl) (fun x_7 h => ?_)
                    refine ii_goto (tgt := 46) dX3_settle_75 (by decide) ?_
                    refine ii_lv [1, 2, 3, 0] rfl ?_
                    cases h
                    exact hb_1 (x_7, c_6.2.1, c_6.2.2) rfl
                  · skip
                    refine ii_iconst dX3_settle_70 kc1 ?_
                    cases h
                    cases hr_1 _ rfl
                    have h := sm_r ha_1
                    cases h
                    exact hQ _ _ dX3_settle_71 (Or.inr rfl)
          · skip
            refine ii_iconst dX3_settle_42 kc0 ?_
            cases h
            exact hQ _ _ dX3_settle_43 (Or.inl rfl)
      · skip
        refine ii_iconst dX3_settle_32 kc1 ?_
        cases h
        exact hQ _ _ dX3_settle_33 (Or.inr rfl)
theorem c_X3_settle (k : Nat) (l : Launch) (D : va_G) (cI cJ cZ cH : ClassId) (a_this a_this_alike a_this_house a_this_house_acts a_this_house_debts a_this_house_gates a_this_house_letters a_this_house_loads a_this_house_mentions a_this_house_mentions_cells a_this_house_merchants a_this_house_payments a_this_house_prices a_this_house_purses a_this_house_stones a_this_house_texts a_this_house_told a_this_least a_this_members : Nat) (v_this_alike : Nat → Int32) (v_this_house_mentions_rows : Int32) (v_this_house_names : Int32) (v_this_house_narrow : Int32) (v_this_least : Nat → Int32) (v_this_members : Nat → Int32) (p0 : Int32) (p1 : Int32) {res : Int32 × (Nat → Int32) × (Nat → Int32)} (h : F_X3_settle k v_this_alike v_this_house_mentions_rows v_this_least v_this_members p0 p1 = some res) : CTi l yX3_settle wzX3_settle { frames := 2 * k, cells := 0, slots := 0, locals := 100 * k } D [(cI, .int), (cJ, .long), (cZ, .boolean), (cH, .object "TinHouse$House")] [.ref a_this, .int p0, .int p1] [(a_this, .inr (3, [.ref a_this_house, .ref a_this_alike, .ref a_this_members, .ref a_this_least])), (a_this_alike, .inl (cI, 10, .inl v_this_alike)), (a_this_house, .inr (0, [.ref a_this_house_merchants, .ref a_this_house_texts, .ref a_this_house_acts, .ref a_this_house_debts, .ref a_this_house_payments, .ref a_this_house_purses, .ref a_this_house_gates, .ref a_this_house_stones, .ref a_this_house_told, .ref a_this_house_letters, .ref a_this_house_mentions, .ref a_this_house_loads, .ref a_this_house_prices, .int v_this_house_narrow, .int v_this_house_names])), (a_this_house_mentions, .inr (8, [.int (3 : Int32), .int (10 : Int32), .ref a_this_house_mentions_cells, .int v_this_house_mentions_rows])), (a_this_least, .inl (cI, 10, .inl v_this_least)), (a_this_members, .inl (cI, 10, .inl v_this_members))] res.1 [(a_this, .inr (3, [.ref a_this_house, .ref a_this_alike, .ref a_this_members, .ref a_this_least])), (a_this_alike, .inl (cI, 10, .inl v_this_alike)), (a_this_house, .inr (0, [.ref a_this_house_merchants, .ref a_this_house_texts, .ref a_this_house_acts, .ref a_this_house_debts, .ref a_this_house_payments, .ref a_this_house_purses, .ref a_this_house_gates, .ref a_this_house_stones, .ref a_this_house_told, .ref a_this_house_letters, .ref a_this_house_mentions, .ref a_this_house_loads, .ref a_this_house_prices, .int v_this_house_narrow, .int v_this_house_names])), (a_this_house_mentions, .inr (8, [.int (3 : Int32), .int (10 : Int32), .ref a_this_house_mentions_cells, .int v_this_house_mentions_rows])), (a_this_least, .inl (cI, 10, .inl res.2.1)), (a_this_members, .inl (cI, 10, .inl res.2.2))] := by
  induction k generalizing a_this a_this_alike a_this_house a_this_house_acts a_this_house_debts a_this_house_gates a_this_house_letters a_this_house_loads a_this_house_mentions a_this_house_mentions_cells a_this_house_merchants a_this_house_payments a_this_house_prices a_this_house_purses a_this_house_stones a_this_house_texts a_this_house_told a_this_least a_this_members v_this_alike v_this_house_mentions_rows v_this_house_names v_this_house_narrow v_this_least v_this_members p0 p1 res with
  | zero => cases h
  | succ k ih => exact c_X3_settle1 l D cI cJ cZ cH (2 * k) (100 * k) (F_X3_settle k) (fun a_this a_this_alike a_this_house a_this_house_acts a_this_house_debts a_this_house_gates a_this_house_letters a_this_house_loads a_this_house_mentions a_this_house_mentions_cells a_this_house_merchants a_this_house_payments a_this_house_prices a_this_house_purses a_this_house_stones a_this_house_texts a_this_house_told a_this_least a_this_members v_this_alike v_this_house_mentions_rows v_this_house_names v_this_house_narrow v_this_least v_this_members p0 p1 res h => ih a_this a_this_alike a_this_house a_this_house_acts a_this_house_debts a_this_house_gates a_this_house_letters a_this_house_loads a_this_house_mentions a_this_house_mentions_cells a_this_house_merchants a_this_house_payments a_this_house_prices a_this_house_purses a_this_house_stones a_this_house_texts a_this_house_told a_this_least a_this_members v_this_alike v_this_house_mentions_rows v_this_house_names v_this_house_narrow v_this_least v_this_members p0 p1 h) a_this a_this_alike a_this_house a_this_house_acts a_this_house_debts a_this_house_gates a_this_house_letters a_this_house_loads a_this_house_mentions a_this_house_mentions_cells a_this_house_merchants a_this_house_payments a_this_house_prices a_this_house_purses a_this_house_stones a_this_house_texts a_this_house_told a_this_least a_this_members v_this_alike v_this_house_mentions_rows v_this_house_names v_this_house_narrow v_this_least v_this_members p0 p1 h
set_option maxHeartbeats 4000000 in
set_option maxRecDepth 100000 in
theorem c_X3_tellApart (l : Launch) (D : va_G) (cI cJ cZ cH : ClassId) (a_this a_this_alike a_this_house a_this_house_acts a_this_house_debts a_this_house_gates a_this_house_letters a_this_house_loads a_this_house_mentions a_this_house_mentions_cells a_this_house_merchants a_this_house_payments a_this_house_prices a_this_house_purses a_this_house_stones a_this_house_texts a_this_house_told a_this_least a_this_members : Nat) (v_this_alike : Nat → Int32) (v_this_house_mentions_cells : Nat → Int32) (v_this_house_mentions_rows : Int32) (v_this_house_names : Int32) (v_this_house_narrow : Int32) (v_this_least : Nat → Int32) (v_this_members : Nat → Int32) {res : Int32 × (Nat → Int32) × (Nat → Int32) × (Nat → Int32)} (h : F_X3_tellApart v_this_alike v_this_house_mentions_cells v_this_house_mentions_rows v_this_least v_this_members = some res) : CTi l yX3_tellApart wzX3_tellApart { frames := 27, cells := 0, slots := 0, locals := 1269 } D [(cI, .int), (cJ, .long), (cZ, .boolean), (cH, .object "TinHouse$House")] [.ref a_this] [(a_this, .inr (3, [.ref a_this_house, .ref a_this_alike, .ref a_this_members, .ref a_this_least])), (a_this_alike, .inl (cI, 10, .inl v_this_alike)), (a_this_house, .inr (0, [.ref a_this_house_merchants, .ref a_this_house_texts, .ref a_this_house_acts, .ref a_this_house_debts, .ref a_this_house_payments, .ref a_this_house_purses, .ref a_this_house_gates, .ref a_this_house_stones, .ref a_this_house_told, .ref a_this_house_letters, .ref a_this_house_mentions, .ref a_this_house_loads, .ref a_this_house_prices, .int v_this_house_narrow, .int v_this_house_names])), (a_this_house_mentions, .inr (8, [.int (3 : Int32), .int (10 : Int32), .ref a_this_house_mentions_cells, .int v_this_house_mentions_rows])), (a_this_house_mentions_cells, .inl (cI, 30, .inl v_this_house_mentions_cells)), (a_this_least, .inl (cI, 10, .inl v_this_least)), (a_this_members, .inl (cI, 10, .inl v_this_members))] res.1 [(a_this, .inr (3, [.ref a_this_house, .ref a_this_alike, .ref a_this_members, .ref a_this_least])), (a_this_alike, .inl (cI, 10, .inl res.2.1)), (a_this_house, .inr (0, [.ref a_this_house_merchants, .ref a_this_house_texts, .ref a_this_house_acts, .ref a_this_house_debts, .ref a_this_house_payments, .ref a_this_house_purses, .ref a_this_house_gates, .ref a_this_house_stones, .ref a_this_house_told, .ref a_this_house_letters, .ref a_this_house_mentions, .ref a_this_house_loads, .ref a_this_house_prices, .int v_this_house_narrow, .int v_this_house_names])), (a_this_house_mentions, .inr (8, [.int (3 : Int32), .int (10 : Int32), .ref a_this_house_mentions_cells, .int v_this_house_mentions_rows])), (a_this_house_mentions_cells, .inl (cI, 30, .inl v_this_house_mentions_cells)), (a_this_least, .inl (cI, 10, .inl res.2.2.1)), (a_this_members, .inl (cI, 10, .inl res.2.2.2))] := by
  unfold F_X3_tellApart at h
  refine ii_metI (own := RX3) (lv0 := [(0, .ref a_this)]) (by decide) rfl rfl rfl (Nat.le_of_ble_eq_true rfl) (fun {p e s m args below meth c A Q} hQ => ?_)
  refine ii_aload_n 0 dX3_tellApart_0 rfl ?_
  obtain ⟨c_1, hc_1, h⟩ := bnd h
  refine ii_callVv (As := []) (ws' := [(a_this, .inr (3, [.ref a_this_house, .ref a_this_alike, .ref a_this_members, .ref a_this_least])), (a_this_alike, .inl (cI, 10, .inl c_1)), (a_this_house, .inr (0, [.ref a_this_house_merchants, .ref a_this_house_texts, .ref a_this_house_acts, .ref a_this_house_debts, .ref a_this_house_payments, .ref a_this_house_purses, .ref a_this_house_gates, .ref a_this_house_stones, .ref a_this_house_told, .ref a_this_house_letters, .ref a_this_house_mentions, .ref a_this_house_loads, .ref a_this_house_prices, .int v_this_house_narrow, .int v_this_house_names])), (a_this_house_mentions, .inr (8, [.int (3 : Int32), .int (10 : Int32), .ref a_this_house_mentions_cells, .int v_this_house_mentions_rows])), (a_this_house_mentions_cells, .inl (cI, 30, .inl v_this_house_mentions_cells)), (a_this_least, .inl (cI, 10, .inl v_this_least)), (a_this_members, .inl (cI, 10, .inl v_this_members))]) (st := []) (c_X3_compare l D cI cJ cZ cH a_this a_this_alike a_this_house a_this_house_acts a_this_house_debts a_this_house_gates a_this_house_letters a_this_house_loads a_this_house_mentions a_this_house_mentions_cells a_this_house_merchants a_this_house_payments a_this_house_prices a_this_house_purses a_this_house_stones a_this_house_texts a_this_house_told a_this_least a_this_members v_this_alike v_this_house_mentions_cells v_this_house_mentions_rows v_this_house_names v_this_house_narrow hc_1) gzX3_25 rfl rfl rfl eV_X3_compare ⟨Nat.le_of_ble_eq_true rfl, Nat.le_of_ble_eq_true rfl⟩ rfl 0 rfl rfl [0, 1, 2, 3, 4] rfl rfl rfl rfl rfl (Nat.le_of_ble_eq_true rfl) (Nat.le_refl _) (Nat.le_refl _) rfl dX3_tellApart_1 ?_
  refine ii_iconst dX3_tellApart_4 kc0 ?_
  refine ii_istore_n (lv' := [(1, .int (0 : Int32)), (0, .ref a_this)]) dX3_tellApart_5 rfl (by decide) rfl ?_
  refine ii_lv [1, 0] rfl ?_
  obtain ⟨x_3, hl_2, ha_2⟩ := bnd h
  refine ii_loopR (fun s_2 => [(a_this, .inr (3, [.ref a_this_house, .ref a_this_alike, .ref a_this_members, .ref a_this_least])), (a_this_alike, .inl (cI, 10, .inl c_1)), (a_this_house, .inr (0, [.ref a_this_house_merchants, .ref a_this_house_texts, .ref a_this_house_acts, .ref a_this_house_debts, .ref a_this_house_payments, .ref a_this_house_purses, .ref a_this_house_gates, .ref a_this_house_stones, .ref a_this_house_told, .ref a_this_house_letters, .ref a_this_house_mentions, .ref a_this_house_loads, .ref a_this_house_prices, .int v_this_house_narrow, .int v_this_house_names])), (a_this_house_mentions, .inr (8, [.int (3 : Int32), .int (10 : Int32), .ref a_this_house_mentions_cells, .int v_this_house_mentions_rows])), (a_this_house_mentions_cells, .inl (cI, 30, .inl v_this_house_mentions_cells)), (a_this_least, .inl (cI, 10, .inl s_2.2.1)), (a_this_members, .inl (cI, 10, .inl s_2.2.2))]) (fun s_2 => [(0, .ref a_this), (1, .int s_2.1)]) (fun y_4 => [(a_this, .inr (3, [.ref a_this_house, .ref a_this_alike, .ref a_this_members, .ref a_this_least])), (a_this_alike, .inl (cI, 10, .inl c_1)), (a_this_house, .inr (0, [.ref a_this_house_merchants, .ref a_this_house_texts, .ref a_this_house_acts, .ref a_this_house_debts, .ref a_this_house_payments, .ref a_this_house_purses, .ref a_this_house_gates, .ref a_this_house_stones, .ref a_this_house_told, .ref a_this_house_letters, .ref a_this_house_mentions, .ref a_this_house_loads, .ref a_this_house_prices, .int v_this_house_narrow, .int v_this_house_names])), (a_this_house_mentions, .inr (8, [.int (3 : Int32), .int (10 : Int32), .ref a_this_house_mentions_cells, .int v_this_house_mentions_rows])), (a_this_house_mentions_cells, .inl (cI, 30, .inl v_this_house_mentions_cells)), (a_this_least, .inl (cI, 10, .inl y_4.2.1)), (a_this_members, .inl (cI, 10, .inl y_4.2.2))]) (fun y_4 => []) 37 hl_2 rfl rfl (fun y_4 hy => ?_) (fun s_2 o h hb_2 hr_2 hx_2 => ?_)
  · skip
    subst hy
    have h := sm_l ha_2
    refine ii_bipush dX3_tellApart_37 kb10 ?_
    cases h
    exact hQ _ _ dX3_tellApart_39
  · skip
    refine ii_iload_n 1 dX3_tellApart_6 rfl ?_
    refine ii_bipush dX3_tellApart_7 kb10 ?_
    refine ii_icmp_gt (tgt := 37) h dX3_tellApart_9 (by decide) (fun h => ?_) (fun h => ?_)
    · skip
      refine ii_lv [] rfl ?_
      cases h
      exact hx_2 (s_2.1, s_2.2.1, s_2.2.2) (hr_2 _ rfl)
    · skip
      refine ii_aload_n 0 dX3_tellApart_12 rfl ?_
      refine ii_get (C := RX3) (T := TX3) (N := 4) (ci := 3) izX3 0 rfl rfl 2 (by decide) kX3_15 rfl dX3_tellApart_13 ?_
      refine ii_iconst dX3_tellApart_16 kc0 ?_
      obtain ⟨c_5, hc_5, h⟩ := bnd h
      refine ii_callJv (As := [.ref a_this_members, .int (0 : Int32)]) (ws' := [(a_this, .inr (3, [.ref a_this_house, .ref a_this_alike, .ref a_this_members, .ref a_this_least])), (a_this_alike, .inl (cI, 10, .inl c_1)), (a_this_house, .inr (0, [.ref a_this_house_merchants, .ref a_this_house_texts, .ref a_this_house_acts, .ref a_this_house_debts, .ref a_this_house_payments, .ref a_this_house_purses, .ref a_this_house_gates, .ref a_this_house_stones, .ref a_this_house_told, .ref a_this_house_letters, .ref a_this_house_mentions, .ref a_this_house_loads, .ref a_this_house_prices, .int v_this_house_narrow, .int v_this_house_names])), (a_this_house_mentions, .inr (8, [.int (3 : Int32), .int (10 : Int32), .ref a_this_house_mentions_cells, .int v_this_house_mentions_rows])), (a_this_house_mentions_cells, .inl (cI, 30, .inl v_this_house_mentions_cells)), (a_this_least, .inl (cI, 10, .inl s_2.2.1)), (a_this_members, .inl (cI, 10, .inl c_5))]) (st := []) (c_J7_fill_53178 l D cI cJ cZ cH a_this_members 10 s_2.2.2 (0 : Int32) hc_5) gzX3_28 rfl rfl rfl eJ_J7_fill_53178 ⟨Nat.le_of_ble_eq_true rfl, Nat.le_of_ble_eq_true rfl⟩ rfl [6] rfl rfl rfl rfl rfl (Nat.le_of_ble_eq_true rfl) (Nat.le_refl _) (Nat.le_refl _) rfl dX3_tellApart_17 ?_
      refine ii_aload_n 0 dX3_tellApart_20 rfl ?_
      refine ii_iconst dX3_tellApart_21 kc0 ?_
      refine ii_iload_n 1 dX3_tellApart_22 rfl ?_
      obtain ⟨c_6, hc_6, h⟩ := bnd h
      refine ii_callVi (As := [.int (0 : Int32), .int s_2.1]) (ws' := [(a_this, .inr (3, [.ref a_this_house, .ref a_this_alike, .ref a_this_members, .ref a_this_least])), (a_this_alike, .inl (cI, 10, .inl c_1)), (a_this_house, .inr (0, [.ref a_this_house_merchants, .ref a_this_house_texts, .ref a_this_house_acts, .ref a_this_house_debts, .ref a_this_house_payments, .ref a_this_house_purses, .ref a_this_house_gates, .ref a_this_house_stones, .ref a_this_house_told, .ref a_this_house_letters, .ref a_this_house_mentions, .ref a_this_house_loads, .ref a_this_house_prices, .int v_this_house_narrow, .int v_this_house_names])), (a_this_house_mentions, .inr (8, [.int (3 : Int32), .int (10 : Int32), .ref a_this_house_mentions_cells, .int v_this_house_mentions_rows])), (a_this_house_mentions_cells, .inl (cI, 30, .inl v_this_house_mentions_cells)), (a_this_least, .inl (cI, 10, .inl c_6.2.1)), (a_this_members, .inl (cI, 10, .inl c_6.2.2))]) (st := []) (c_X3_settle 12 l D cI cJ cZ cH a_this a_this_alike a_this_house a_this_house_acts a_this_house_debts a_this_house_gates a_this_house_letters a_this_house_loads a_this_house_mentions a_this_house_mentions_cells a_this_house_merchants a_this_house_payments a_this_house_prices a_this_house_purses a_this_house_stones a_this_house_texts a_this_house_told a_this_least a_this_members c_1 v_this_house_mentions_rows v_this_house_names v_this_house_narrow s_2.2.1 c_5 (0 : Int32) s_2.1 hc_6) gzX3_34 rfl rfl rfl eV_X3_settle ⟨Nat.le_of_ble_eq_true rfl, Nat.le_of_ble_eq_true rfl⟩ rfl 0 rfl rfl [0, 1, 2, 3, 5, 6] rfl rfl rfl rfl rfl (Nat.le_of_ble_eq_true rfl) (Nat.le_refl _) (Nat.le_refl _) rfl dX3_tellApart_23 ?_
      refine ii_if_eq (tgt := 31) h dX3_tellApart_26 (by decide) (fun h => ?_) (fun h => ?_)
      · skip
        refine ii_iinc (fun x_7 => [(1, .int x_7), (0, .ref a_this)]) h 1 dX3_tellApart_31 rfl kc1 (by decide) (fun _ => rfl) (fun x_7 h => ?_)
        refine ii_goto (tgt := 6) dX3_tellApart_34 (by decide) ?_
        refine ii_lv [1, 0] rfl ?_
        cases h
        exact hb_2 (x_7, c_6.2.1, c_6.2.2) rfl
      · skip
        refine ii_iload_n 1 dX3_tellApart_29 rfl ?_
        cases h
        cases hr_2 _ rfl
        have h := sm_r ha_2
        cases h
        exact hQ _ _ dX3_tellApart_30
set_option maxHeartbeats 4000000 in
set_option maxRecDepth 100000 in
theorem c_X3_leastOf (l : Launch) (D : va_G) (cI cJ cZ cH : ClassId) (a_this a_this_alike a_this_house a_this_least a_this_members : Nat) (v_this_least : Nat → Int32) (p0 : Int32) {res : Int32} (h : F_X3_leastOf v_this_least p0 = some res) : CTi l yX3_leastOf wzX3_leastOf { frames := 0, cells := 0, slots := 0, locals := 0 } D [(cI, .int), (cJ, .long), (cZ, .boolean), (cH, .object "TinHouse$House")] [.ref a_this, .int p0] [(a_this, .inr (3, [.ref a_this_house, .ref a_this_alike, .ref a_this_members, .ref a_this_least])), (a_this_least, .inl (cI, 10, .inl v_this_least))] res [(a_this, .inr (3, [.ref a_this_house, .ref a_this_alike, .ref a_this_members, .ref a_this_least])), (a_this_least, .inl (cI, 10, .inl v_this_least))] := by
  unfold F_X3_leastOf at h
  refine ii_metI (own := RX3) (lv0 := [(0, .ref a_this), (1, .int p0)]) (by decide) rfl rfl rfl (Nat.le_of_ble_eq_true rfl) (fun {p e s m args below meth c A Q} hQ => ?_)
  refine ii_iload_n 1 dX3_leastOf_0 rfl ?_
  refine ii_jn h (fun j_1 => [(a_this, .inr (3, [.ref a_this_house, .ref a_this_alike, .ref a_this_members, .ref a_this_least])), (a_this_least, .inl (cI, 10, .inl v_this_least))]) (fun j_1 => []) 23 (fun j_1 => [.int j_1]) (fun j_1 h => ?_) (fun j_1 h hjj_1 => ?_)
  · skip
    cases h
    exact hQ _ _ dX3_leastOf_23
  · skip
    refine ii_if_lt (tgt := 22) h dX3_leastOf_1 (by decide) (fun h => ?_) (fun h => ?_)
    · skip
      refine ii_iconst dX3_leastOf_22 kcm1 ?_
      refine ii_lv [] rfl ?_
      cases h
      exact hjj_1
    · skip
      refine ii_iload_n 1 dX3_leastOf_4 rfl ?_
      refine ii_aload_n 0 dX3_leastOf_5 rfl ?_
      refine ii_get (C := RX3) (T := TX3) (N := 4) (ci := 3) izX3 0 rfl rfl 3 (by decide) kX3_18 rfl dX3_leastOf_6 ?_
      refine ii_alen (v := (10 : Int32)) 1 0 rfl rfl rfl dX3_leastOf_9 ?_
      refine ii_icmp_ge (tgt := 22) h dX3_leastOf_10 (by decide) (fun h => ?_) (fun h => ?_)
      · skip
        refine ii_iconst dX3_leastOf_22 kcm1 ?_
        refine ii_lv [] rfl ?_
        cases h
        exact hjj_1
      · skip
        refine ii_aload_n 0 dX3_leastOf_13 rfl ?_
        refine ii_get (C := RX3) (T := TX3) (N := 4) (ci := 3) izX3 0 rfl rfl 3 (by decide) kX3_18 rfl dX3_leastOf_14 ?_
        refine ii_iload_n 1 dX3_leastOf_17 rfl ?_
        refine ii_iald h 1 0 rfl rfl dX3_leastOf_18 (fun t_2 h => ?_)
        refine ii_goto (tgt := 23) dX3_leastOf_19 (by decide) ?_
        refine ii_lv [] rfl ?_
        cases h
        exact hjj_1
