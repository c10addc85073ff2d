set_option maxHeartbeats 4000000 in
set_option maxRecDepth 100000 in
theorem c_X4_book (l : Launch) (D : va_G) (cI cJ cZ cH : ClassId) (a_this a_this_balances a_this_house a_this_ledger a_this_pairs a_this_ring a_this_sets a_this_steps a_this_sums a_this_uneven : Nat) (v_this_balances : Nat → Int64) (p0 : Int32) (p1 : Int64) {res : (Nat → Int64)} (h : F_X4_book v_this_balances p0 p1 = some res) : CTv l yX4_book wzX4_book { frames := 0, cells := 0, slots := 0, locals := 0 } D [(cI, .int), (cJ, .long), (cZ, .boolean), (cH, .object "TinHouse$House")] [.ref a_this, .int p0, .long p1] [(a_this, .inr (4, [.ref a_this_house, .ref a_this_ledger, .ref a_this_balances, .ref a_this_pairs, .ref a_this_uneven, .ref a_this_sums, .ref a_this_sets, .ref a_this_steps, .ref a_this_ring])), (a_this_balances, .inl (cJ, 10, .inr (.inl v_this_balances)))] [(a_this, .inr (4, [.ref a_this_house, .ref a_this_ledger, .ref a_this_balances, .ref a_this_pairs, .ref a_this_uneven, .ref a_this_sums, .ref a_this_sets, .ref a_this_steps, .ref a_this_ring])), (a_this_balances, .inl (cJ, 10, .inr (.inl res)))] := by
  unfold F_X4_book at h
  refine ii_metV (own := RX4) (lv0 := [(0, .ref a_this), (1, .int p0), (2, .long p1)]) (by decide) rfl rfl rfl (Nat.le_of_ble_eq_true rfl) (fun {p e s m args below meth c A Q} hQ => ?_)
  refine ii_iload_n 1 dX4_book_0 rfl ?_
  refine ii_jn h (fun j_1 => [(a_this, .inr (4, [.ref a_this_house, .ref a_this_ledger, .ref a_this_balances, .ref a_this_pairs, .ref a_this_uneven, .ref a_this_sums, .ref a_this_sets, .ref a_this_steps, .ref a_this_ring])), (a_this_balances, .inl (cJ, 10, .inr (.inl j_1)))]) (fun j_1 => []) 23 (fun j_1 => []) (fun j_1 h => ?_) (fun j_1 h hjj_1 => ?_)
  · skip
    cases h
    exact hQ _ _ dX4_book_23
  · skip
    refine ii_if_lt (tgt := 23) h dX4_book_1 (by decide) (fun h => ?_) (fun h => ?_)
    · skip
      refine ii_lv [] rfl ?_
      cases h
      exact hjj_1
    · skip
      refine ii_iload_n 1 dX4_book_4 rfl ?_
      refine ii_aload_n 0 dX4_book_5 rfl ?_
      refine ii_get (C := RX4) (T := TX4) (N := 9) (ci := 4) izX4 0 rfl rfl 2 (by decide) kX4_9 rfl dX4_book_6 ?_
      refine ii_alen (v := (10 : Int32)) 1 1 rfl rfl rfl dX4_book_9 ?_
      refine ii_icmp_ge (tgt := 23) h dX4_book_10 (by decide) (fun h => ?_) (fun h => ?_)
      · skip
        refine ii_lv [] rfl ?_
        cases h
        exact hjj_1
      · skip
        refine ii_aload_n 0 dX4_book_13 rfl ?_
        refine ii_get (C := RX4) (T := TX4) (N := 9) (ci := 4) izX4 0 rfl rfl 2 (by decide) kX4_9 rfl dX4_book_14 ?_
        refine ii_iload_n 1 dX4_book_17 rfl ?_
        refine ii_dup2 dX4_book_18 rfl rfl ?_
        refine ii_lald h 1 1 rfl rfl dX4_book_19 (fun t_2 h => ?_)
        refine ii_lload_n 2 dX4_book_20 rfl ?_
        refine ii_ladd dX4_book_21 ?_
        refine ii_last (fun g_3 => [(a_this, .inr (4, [.ref a_this_house, .ref a_this_ledger, .ref a_this_balances, .ref a_this_pairs, .ref a_this_uneven, .ref a_this_sums, .ref a_this_sets, .ref a_this_steps, .ref a_this_ring])), (a_this_balances, .inl (cJ, 10, .inr (.inl g_3)))]) h 1 1 rfl rfl dX4_book_22 (fun _ => rfl) (fun g_3 h => ?_)
        refine ii_lv [] rfl ?_
        cases h
        exact hjj_1
set_option maxHeartbeats 4000000 in
set_option maxRecDepth 100000 in
theorem c_X4_pairOf (l : Launch) (D : va_G) (cI cJ cZ cH : ClassId) (p0 : Int32) (p1 : Int32) {res : Int32} (h : F_X4_pairOf p0 p1 = some res) : CTi l yX4_pairOf wzX4_pairOf { frames := 0, cells := 0, slots := 0, locals := 0 } D [(cI, .int), (cJ, .long), (cZ, .boolean), (cH, .object "TinHouse$House")] [.int p0, .int p1] [] res [] := by
  unfold F_X4_pairOf at h
  refine ii_metI (own := RX4) (lv0 := [(0, .int p0), (1, .int p1)]) (by decide) rfl rfl rfl (Nat.le_of_ble_eq_true rfl) (fun {p e s m args below meth c A Q} hQ => ?_)
  refine ii_iload_n 0 dX4_pairOf_0 rfl ?_
  refine ii_jn h (fun j_1 => []) (fun j_1 => [(0, .int p0), (1, .int p1)]) 25 (fun j_1 => [.int j_1]) (fun j_1 h => ?_) (fun j_1 h hjj_1 => ?_)
  · skip
    refine ii_istore_n (lv' := [(2, .int j_1), (0, .int p0), (1, .int p1)]) dX4_pairOf_25 rfl (by decide) rfl ?_
    refine ii_iload_n 0 dX4_pairOf_26 rfl ?_
    refine ii_jn h (fun j_2 => []) (fun j_2 => []) 40 (fun j_2 => [.int j_2]) (fun j_2 h => ?_) (fun j_2 h hjj_2 => ?_)
    · skip
      cases h
      exact hQ _ _ dX4_pairOf_40
    · skip
      refine ii_if_eq (tgt := 39) h dX4_pairOf_27 (by decide) (fun h => ?_) (fun h => ?_)
      · skip
        refine ii_iconst dX4_pairOf_39 kcm1 ?_
        refine ii_lv [] rfl ?_
        cases h
        exact hjj_2
      · skip
        refine ii_iload_n 1 dX4_pairOf_30 rfl ?_
        refine ii_bipush dX4_pairOf_31 kb10 ?_
        refine ii_imul dX4_pairOf_33 ?_
        refine ii_iload_n 2 dX4_pairOf_34 rfl ?_
        refine ii_iadd dX4_pairOf_35 ?_
        refine ii_goto (tgt := 40) dX4_pairOf_36 (by decide) ?_
        refine ii_lv [] rfl ?_
        cases h
        exact hjj_2
  · skip
    refine ii_if_lt (tgt := 24) h dX4_pairOf_1 (by decide) (fun h => ?_) (fun h => ?_)
    · skip
      refine ii_iconst dX4_pairOf_24 kc0 ?_
      cases h
      exact hjj_1
    · skip
      refine ii_iload_n 0 dX4_pairOf_4 rfl ?_
      refine ii_bipush dX4_pairOf_5 kb10 ?_
      refine ii_icmp_ge (tgt := 24) h dX4_pairOf_7 (by decide) (fun h => ?_) (fun h => ?_)
      · skip
        refine ii_iconst dX4_pairOf_24 kc0 ?_
        cases h
        exact hjj_1
      · skip
        refine ii_iload_n 1 dX4_pairOf_10 rfl ?_
        refine ii_if_lt (tgt := 24) h dX4_pairOf_11 (by decide) (fun h => ?_) (fun h => ?_)
        · skip
          refine ii_iconst dX4_pairOf_24 kc0 ?_
          cases h
          exact hjj_1
        · skip
          refine ii_iload_n 1 dX4_pairOf_14 rfl ?_
          refine ii_bipush dX4_pairOf_15 kb10 ?_
          refine ii_icmp_ge (tgt := 24) h dX4_pairOf_17 (by decide) (fun h => ?_) (fun h => ?_)
          · skip
            refine ii_iconst dX4_pairOf_24 kc0 ?_
            cases h
            exact hjj_1
          · skip
            refine ii_iconst dX4_pairOf_20 kc1 ?_
            refine ii_goto (tgt := 25) dX4_pairOf_21 (by decide) ?_
            cases h
            exact hjj_1
set_option maxHeartbeats 4000000 in
set_option maxRecDepth 100000 in
theorem c_X4_weigh (l : Launch) (D : va_G) (cI cJ cZ cH : ClassId) (a_this a_this_balances a_this_house a_this_house_acts a_this_house_acts_cells a_this_house_debts a_this_house_debts_cells a_this_house_gates a_this_house_letters a_this_house_loads a_this_house_mentions a_this_house_merchants a_this_house_merchants_cells a_this_house_payments a_this_house_payments_cells a_this_house_prices a_this_house_purses a_this_house_stones a_this_house_texts a_this_house_told a_this_ledger a_this_ledger_law a_this_ledger_law_stack a_this_ledger_paid a_this_pairs a_this_ring a_this_sets a_this_steps a_this_sums a_this_uneven : Nat) (v_this_balances : Nat → Int64) (v_this_house_acts_cells : Nat → Int32) (v_this_house_acts_rows : Int32) (v_this_house_debts_cells : Nat → Int32) (v_this_house_debts_rows : Int32) (v_this_house_merchants_cells : Nat → Int32) (v_this_house_merchants_rows : Int32) (v_this_house_names : Int32) (v_this_house_narrow : Int32) (v_this_house_payments_cells : Nat → Int32) (v_this_house_payments_rows : Int32) (v_this_ledger_law_about : Int64) (v_this_ledger_law_gate : Int32) (v_this_ledger_law_height : Int32) (v_this_ledger_law_kin : Int32) (v_this_ledger_law_season : Int32) (v_this_ledger_law_stack : Nat → Int64) (v_this_ledger_law_town : Int32) (v_this_ledger_paid : Nat → Int64) (v_this_pairs : Nat → Int64) (p0 : Int32) {res : (Nat → Int64) × Int64 × Int32 × Int32 × Int32 × Int32 × (Nat → Int64) × Int32 × (Nat → Int64) × (Nat → Int64)} (h : F_X4_weigh v_this_balances v_this_house_acts_cells v_this_house_acts_rows v_this_house_debts_cells v_this_house_debts_rows v_this_house_merchants_cells v_this_house_merchants_rows v_this_house_payments_cells v_this_house_payments_rows v_this_ledger_law_about v_this_ledger_law_gate v_this_ledger_law_height v_this_ledger_law_kin v_this_ledger_law_season v_this_ledger_law_stack v_this_ledger_law_town v_this_ledger_paid v_this_pairs p0 = some res) : CTv l yX4_weigh wzX4_weigh { frames := 5, cells := 0, slots := 0, locals := 139 } D [(cI, .int), (cJ, .long), (cZ, .boolean), (cH, .object "TinHouse$House")] [.ref a_this, .int p0] [(a_this, .inr (4, [.ref a_this_house, .ref a_this_ledger, .ref a_this_balances, .ref a_this_pairs, .ref a_this_uneven, .ref a_this_sums, .ref a_this_sets, .ref a_this_steps, .ref a_this_ring])), (a_this_balances, .inl (cJ, 10, .inr (.inl v_this_balances))), (a_this_house, .inr (0, [.ref a_this_house_merchants, .ref a_this_house_texts, .ref a_this_house_acts, .ref a_this_house_debts, .ref a_this_house_payments, .ref a_this_house_purses, .ref a_this_house_gates, .ref a_this_house_stones, .ref a_this_house_told, .ref a_this_house_letters, .ref a_this_house_mentions, .ref a_this_house_loads, .ref a_this_house_prices, .int v_this_house_narrow, .int v_this_house_names])), (a_this_house_acts, .inr (8, [.int (104 : Int32), .int (16 : Int32), .ref a_this_house_acts_cells, .int v_this_house_acts_rows])), (a_this_house_acts_cells, .inl (cI, 1664, .inl v_this_house_acts_cells)), (a_this_house_debts, .inr (8, [.int (7 : Int32), .int (40 : Int32), .ref a_this_house_debts_cells, .int v_this_house_debts_rows])), (a_this_house_debts_cells, .inl (cI, 280, .inl v_this_house_debts_cells)), (a_this_house_merchants, .inr (8, [.int (2 : Int32), .int (10 : Int32), .ref a_this_house_merchants_cells, .int v_this_house_merchants_rows])), (a_this_house_merchants_cells, .inl (cI, 20, .inl v_this_house_merchants_cells)), (a_this_house_payments, .inr (8, [.int (3 : Int32), .int (60 : Int32), .ref a_this_house_payments_cells, .int v_this_house_payments_rows])), (a_this_house_payments_cells, .inl (cI, 180, .inl v_this_house_payments_cells)), (a_this_ledger, .inr (2, [.ref a_this_house, .ref a_this_ledger_law, .ref a_this_ledger_paid])), (a_this_ledger_law, .inr (1, [.ref a_this_house, .ref a_this_ledger_law_stack, .int v_this_ledger_law_height, .int v_this_ledger_law_gate, .int v_this_ledger_law_kin, .int v_this_ledger_law_town, .int v_this_ledger_law_season, .long v_this_ledger_law_about])), (a_this_ledger_law_stack, .inl (cJ, 50, .inr (.inl v_this_ledger_law_stack))), (a_this_ledger_paid, .inl (cJ, 100, .inr (.inl v_this_ledger_paid))), (a_this_pairs, .inl (cJ, 100, .inr (.inl v_this_pairs)))] [(a_this, .inr (4, [.ref a_this_house, .ref a_this_ledger, .ref a_this_balances, .ref a_this_pairs, .ref a_this_uneven, .ref a_this_sums, .ref a_this_sets, .ref a_this_steps, .ref a_this_ring])), (a_this_balances, .inl (cJ, 10, .inr (.inl res.1))), (a_this_house, .inr (0, [.ref a_this_house_merchants, .ref a_this_house_texts, .ref a_this_house_acts, .ref a_this_house_debts, .ref a_this_house_payments, .ref a_this_house_purses, .ref a_this_house_gates, .ref a_this_house_stones, .ref a_this_house_told, .ref a_this_house_letters, .ref a_this_house_mentions, .ref a_this_house_loads, .ref a_this_house_prices, .int v_this_house_narrow, .int v_this_house_names])), (a_this_house_acts, .inr (8, [.int (104 : Int32), .int (16 : Int32), .ref a_this_house_acts_cells, .int v_this_house_acts_rows])), (a_this_house_acts_cells, .inl (cI, 1664, .inl v_this_house_acts_cells)), (a_this_house_debts, .inr (8, [.int (7 : Int32), .int (40 : Int32), .ref a_this_house_debts_cells, .int v_this_house_debts_rows])), (a_this_house_debts_cells, .inl (cI, 280, .inl v_this_house_debts_cells)), (a_this_house_merchants, .inr (8, [.int (2 : Int32), .int (10 : Int32), .ref a_this_house_merchants_cells, .int v_this_house_merchants_rows])), (a_this_house_merchants_cells, .inl (cI, 20, .inl v_this_house_merchants_cells)), (a_this_house_payments, .inr (8, [.int (3 : Int32), .int (60 : Int32), .ref a_this_house_payments_cells, .int v_this_house_payments_rows])), (a_this_house_payments_cells, .inl (cI, 180, .inl v_this_house_payments_cells)), (a_this_ledger, .inr (2, [.ref a_this_house, .ref a_this_ledger_law, .ref a_this_ledger_paid])), (a_this_ledger_law, .inr (1, [.ref a_this_house, .ref a_this_ledger_law_stack, .int res.2.2.2.1, .int res.2.2.1, .int res.2.2.2.2.1, .int res.2.2.2.2.2.2.2.1, .int res.2.2.2.2.2.1, .long res.2.1])), (a_this_ledger_law_stack, .inl (cJ, 50, .inr (.inl res.2.2.2.2.2.2.1))), (a_this_ledger_paid, .inl (cJ, 100, .inr (.inl res.2.2.2.2.2.2.2.2.1))), (a_this_pairs, .inl (cJ, 100, .inr (.inl res.2.2.2.2.2.2.2.2.2)))] := by
  unfold F_X4_weigh at h
  refine ii_metV (own := RX4) (lv0 := [(0, .ref a_this), (1, .int p0)]) (by decide) rfl rfl rfl (Nat.le_of_ble_eq_true rfl) (fun {p e s m args below meth c A Q} hQ => ?_)
  refine ii_aload_n 0 dX4_weigh_0 rfl ?_
  refine ii_get (C := RX4) (T := TX4) (N := 9) (ci := 4) izX4 0 rfl rfl 2 (by decide) kX4_9 rfl dX4_weigh_1 ?_
  refine ii_lconst dX4_weigh_4 kl0 ?_
  obtain ⟨c_1, hc_1, h⟩ := bnd h
  refine ii_callJv (As := [.ref a_this_balances, .long (0 : Int64)]) (ws' := [(a_this, .inr (4, [.ref a_this_house, .ref a_this_ledger, .ref a_this_balances, .ref a_this_pairs, .ref a_this_uneven, .ref a_this_sums, .ref a_this_sets, .ref a_this_steps, .ref a_this_ring])), (a_this_balances, .inl (cJ, 10, .inr (.inl c_1))), (a_this_house, .inr (0, [.ref a_this_house_merchants, .ref a_this_house_texts, .ref a_this_house_acts, .ref a_this_house_debts, .ref a_this_house_payments, .ref a_this_house_purses, .ref a_this_house_gates, .ref a_this_house_stones, .ref a_this_house_told, .ref a_this_house_letters, .ref a_this_house_mentions, .ref a_this_house_loads, .ref a_this_house_prices, .int v_this_house_narrow, .int v_this_house_names])), (a_this_house_acts, .inr (8, [.int (104 : Int32), .int (16 : Int32), .ref a_this_house_acts_cells, .int v_this_house_acts_rows])), (a_this_house_acts_cells, .inl (cI, 1664, .inl v_this_house_acts_cells)), (a_this_house_debts, .inr (8, [.int (7 : Int32), .int (40 : Int32), .ref a_this_house_debts_cells, .int v_this_house_debts_rows])), (a_this_house_debts_cells, .inl (cI, 280, .inl v_this_house_debts_cells)), (a_this_house_merchants, .inr (8, [.int (2 : Int32), .int (10 : Int32), .ref a_this_house_merchants_cells, .int v_this_house_merchants_rows])), (a_this_house_merchants_cells, .inl (cI, 20, .inl v_this_house_merchants_cells)), (a_this_house_payments, .inr (8, [.int (3 : Int32), .int (60 : Int32), .ref a_this_house_payments_cells, .int v_this_house_payments_rows])), (a_this_house_payments_cells, .inl (cI, 180, .inl v_this_house_payments_cells)), (a_this_ledger, .inr (2, [.ref a_this_house, .ref a_this_ledger_law, .ref a_this_ledger_paid])), (a_this_ledger_law, .inr (1, [.ref a_this_house, .ref a_this_ledger_law_stack, .int v_this_ledger_law_height, .int v_this_ledger_law_gate, .int v_this_ledger_law_kin, .int v_this_ledger_law_town, .int v_this_ledger_law_season, .long v_this_ledger_law_about])), (a_this_ledger_law_stack, .inl (cJ, 50, .inr (.inl v_this_ledger_law_stack))), (a_this_ledger_paid, .inl (cJ, 100, .inr (.inl v_this_ledger_paid))), (a_this_pairs, .inl (cJ, 100, .inr (.inl v_this_pairs)))]) (st := []) (c_J7_fill_d0a16 l D cI cJ cZ cH a_this_balances 10 v_this_balances (0 : Int64) hc_1) gzX4_42 rfl rfl rfl eJ_J7_fill_d0a16 ⟨Nat.le_of_ble_eq_true rfl, Nat.le_of_ble_eq_true rfl⟩ rfl [1] rfl rfl rfl rfl rfl (Nat.le_of_ble_eq_true rfl) (Nat.le_refl _) (Nat.le_refl _) rfl dX4_weigh_5 ?_
  refine ii_aload_n 0 dX4_weigh_8 rfl ?_
  refine ii_get (C := RX4) (T := TX4) (N := 9) (ci := 4) izX4 0 rfl rfl 3 (by decide) kX4_15 rfl dX4_weigh_9 ?_
  refine ii_lconst dX4_weigh_12 kl0 ?_
  obtain ⟨c_2, hc_2, h⟩ := bnd h
  refine ii_callJv (As := [.ref a_this_pairs, .long (0 : Int64)]) (ws' := [(a_this, .inr (4, [.ref a_this_house, .ref a_this_ledger, .ref a_this_balances, .ref a_this_pairs, .ref a_this_uneven, .ref a_this_sums, .ref a_this_sets, .ref a_this_steps, .ref a_this_ring])), (a_this_balances, .inl (cJ, 10, .inr (.inl c_1))), (a_this_house, .inr (0, [.ref a_this_house_merchants, .ref a_this_house_texts, .ref a_this_house_acts, .ref a_this_house_debts, .ref a_this_house_payments, .ref a_this_house_purses, .ref a_this_house_gates, .ref a_this_house_stones, .ref a_this_house_told, .ref a_this_house_letters, .ref a_this_house_mentions, .ref a_this_house_loads, .ref a_this_house_prices, .int v_this_house_narrow, .int v_this_house_names])), (a_this_house_acts, .inr (8, [.int (104 : Int32), .int (16 : Int32), .ref a_this_house_acts_cells, .int v_this_house_acts_rows])), (a_this_house_acts_cells, .inl (cI, 1664, .inl v_this_house_acts_cells)), (a_this_house_debts, .inr (8, [.int (7 : Int32), .int (40 : Int32), .ref a_this_house_debts_cells, .int v_this_house_debts_rows])), (a_this_house_debts_cells, .inl (cI, 280, .inl v_this_house_debts_cells)), (a_this_house_merchants, .inr (8, [.int (2 : Int32), .int (10 : Int32), .ref a_this_house_merchants_cells, .int v_this_house_merchants_rows])), (a_this_house_merchants_cells, .inl (cI, 20, .inl v_this_house_merchants_cells)), (a_this_house_payments, .inr (8, [.int (3 : Int32), .int (60 : Int32), .ref a_this_house_payments_cells, .int v_this_house_payments_rows])), (a_this_house_payments_cells, .inl (cI, 180, .inl v_this_house_payments_cells)), (a_this_ledger, .inr (2, [.ref a_this_house, .ref a_this_ledger_law, .ref a_this_ledger_paid])), (a_this_ledger_law, .inr (1, [.ref a_this_house, .ref a_this_ledger_law_stack, .int v_this_ledger_law_height, .int v_this_ledger_law_gate, .int v_this_ledger_law_kin, .int v_this_ledger_law_town, .int v_this_ledger_law_season, .long v_this_ledger_law_about])), (a_this_ledger_law_stack, .inl (cJ, 50, .inr (.inl v_this_ledger_law_stack))), (a_this_ledger_paid, .inl (cJ, 100, .inr (.inl v_this_ledger_paid))), (a_this_pairs, .inl (cJ, 100, .inr (.inl c_2)))]) (st := []) (c_J7_fill_d0a16 l D cI cJ cZ cH a_this_pairs 100 v_this_pairs (0 : Int64) hc_2) gzX4_42 rfl rfl rfl eJ_J7_fill_d0a16 ⟨Nat.le_of_ble_eq_true rfl, Nat.le_of_ble_eq_true rfl⟩ rfl [15] rfl rfl rfl rfl rfl (Nat.le_of_ble_eq_true rfl) (Nat.le_refl _) (Nat.le_refl _) rfl dX4_weigh_13 ?_
  refine ii_iconst dX4_weigh_16 kc0 ?_
  refine ii_istore_n (lv' := [(2, .int (0 : Int32)), (0, .ref a_this), (1, .int p0)]) dX4_weigh_17 rfl (by decide) rfl ?_
  refine ii_lv [1, 2, 0] rfl ?_
  obtain ⟨x_4, hl_3, h⟩ := bnd h
  refine ii_loopX (fun s_3 => [(a_this, .inr (4, [.ref a_this_house, .ref a_this_ledger, .ref a_this_balances, .ref a_this_pairs, .ref a_this_uneven, .ref a_this_sums, .ref a_this_sets, .ref a_this_steps, .ref a_this_ring])), (a_this_balances, .inl (cJ, 10, .inr (.inl s_3.2.1))), (a_this_house, .inr (0, [.ref a_this_house_merchants, .ref a_this_house_texts, .ref a_this_house_acts, .ref a_this_house_debts, .ref a_this_house_payments, .ref a_this_house_purses, .ref a_this_house_gates, .ref a_this_house_stones, .ref a_this_house_told, .ref a_this_house_letters, .ref a_this_house_mentions, .ref a_this_house_loads, .ref a_this_house_prices, .int v_this_house_narrow, .int v_this_house_names])), (a_this_house_acts, .inr (8, [.int (104 : Int32), .int (16 : Int32), .ref a_this_house_acts_cells, .int v_this_house_acts_rows])), (a_this_house_acts_cells, .inl (cI, 1664, .inl v_this_house_acts_cells)), (a_this_house_debts, .inr (8, [.int (7 : Int32), .int (40 : Int32), .ref a_this_house_debts_cells, .int v_this_house_debts_rows])), (a_this_house_debts_cells, .inl (cI, 280, .inl v_this_house_debts_cells)), (a_this_house_merchants, .inr (8, [.int (2 : Int32), .int (10 : Int32), .ref a_this_house_merchants_cells, .int v_this_house_merchants_rows])), (a_this_house_merchants_cells, .inl (cI, 20, .inl v_this_house_merchants_cells)), (a_this_house_payments, .inr (8, [.int (3 : Int32), .int (60 : Int32), .ref a_this_house_payments_cells, .int v_this_house_payments_rows])), (a_this_house_payments_cells, .inl (cI, 180, .inl v_this_house_payments_cells)), (a_this_ledger, .inr (2, [.ref a_this_house, .ref a_this_ledger_law, .ref a_this_ledger_paid])), (a_this_ledger_law, .inr (1, [.ref a_this_house, .ref a_this_ledger_law_stack, .int s_3.2.2.2.2.1, .int s_3.2.2.2.1, .int s_3.2.2.2.2.2.1, .int s_3.2.2.2.2.2.2.2.2.1, .int s_3.2.2.2.2.2.2.1, .long s_3.2.2.1])), (a_this_ledger_law_stack, .inl (cJ, 50, .inr (.inl s_3.2.2.2.2.2.2.2.1))), (a_this_ledger_paid, .inl (cJ, 100, .inr (.inl s_3.2.2.2.2.2.2.2.2.2.1))), (a_this_pairs, .inl (cJ, 100, .inr (.inl s_3.2.2.2.2.2.2.2.2.2.2)))]) (fun s_3 => [(0, .ref a_this), (1, .int p0), (2, .int s_3.1)]) (fun x_4 => [(a_this, .inr (4, [.ref a_this_house, .ref a_this_ledger, .ref a_this_balances, .ref a_this_pairs, .ref a_this_uneven, .ref a_this_sums, .ref a_this_sets, .ref a_this_steps, .ref a_this_ring])), (a_this_balances, .inl (cJ, 10, .inr (.inl x_4.2.1))), (a_this_house, .inr (0, [.ref a_this_house_merchants, .ref a_this_house_texts, .ref a_this_house_acts, .ref a_this_house_debts, .ref a_this_house_payments, .ref a_this_house_purses, .ref a_this_house_gates, .ref a_this_house_stones, .ref a_this_house_told, .ref a_this_house_letters, .ref a_this_house_mentions, .ref a_this_house_loads, .ref a_this_house_prices, .int v_this_house_narrow, .int v_this_house_names])), (a_this_house_acts, .inr (8, [.int (104 : Int32), .int (16 : Int32), .ref a_this_house_acts_cells, .int v_this_house_acts_rows])), (a_this_house_acts_cells, .inl (cI, 1664, .inl v_this_house_acts_cells)), (a_this_house_debts, .inr (8, [.int (7 : Int32), .int (40 : Int32), .ref a_this_house_debts_cells, .int v_this_house_debts_rows])), (a_this_house_debts_cells, .inl (cI, 280, .inl v_this_house_debts_cells)), (a_this_house_merchants, .inr (8, [.int (2 : Int32), .int (10 : Int32), .ref a_this_house_merchants_cells, .int v_this_house_merchants_rows])), (a_this_house_merchants_cells, .inl (cI, 20, .inl v_this_house_merchants_cells)), (a_this_house_payments, .inr (8, [.int (3 : Int32), .int (60 : Int32), .ref a_this_house_payments_cells, .int v_this_house_payments_rows])), (a_this_house_payments_cells, .inl (cI, 180, .inl v_this_house_payments_cells)), (a_this_ledger, .inr (2, [.ref a_this_house, .ref a_this_ledger_law, .ref a_this_ledger_paid])), (a_this_ledger_law, .inr (1, [.ref a_this_house, .ref a_this_ledger_law_stack, .int x_4.2.2.2.2.1, .int x_4.2.2.2.1, .int x_4.2.2.2.2.2.1, .int x_4.2.2.2.2.2.2.2.2.1, .int x_4.2.2.2.2.2.2.1, .long x_4.2.2.1])), (a_this_ledger_law_stack, .inl (cJ, 50, .inr (.inl x_4.2.2.2.2.2.2.2.1))), (a_this_ledger_paid, .inl (cJ, 100, .inr (.inl x_4.2.2.2.2.2.2.2.2.2.1))), (a_this_pairs, .inl (cJ, 100, .inr (.inl x_4.2.2.2.2.2.2.2.2.2.2)))]) (fun x_4 => []) 126 hl_3 rfl rfl ?_ (fun s_3 o h hb_3 hr_3 hx_3 => ?_)
  · skip
    cases h
    exact hQ _ _ dX4_weigh_126
  · skip
    refine ii_iload_n 2 dX4_weigh_18 rfl ?_
    refine ii_aload_n 0 dX4_weigh_19 rfl ?_
    refine ii_get (C := RX4) (T := TX4) (N := 9) (ci := 4) izX4 0 rfl rfl 0 (by decide) kX4_34 rfl dX4_weigh_20 ?_
    refine ii_get (C := RX0) (T := TX0) (N := 15) (ci := 0) izX0 2 rfl rfl 3 (by decide) kX4_48 rfl dX4_weigh_23 ?_
    refine ii_get (C := RX8) (T := TX8) (N := 4) (ci := 8) izX8 5 rfl rfl 3 (by decide) kX4_54 rfl dX4_weigh_26 ?_
    refine ii_icmp_ge (tgt := 126) h dX4_weigh_29 (by decide) (fun h => ?_) (fun h => ?_)
    · skip
      refine ii_lv [] rfl ?_
      cases h
      exact hx_3 (s_3.1, s_3.2.1, s_3.2.2.1, s_3.2.2.2.1, s_3.2.2.2.2.1, s_3.2.2.2.2.2.1, s_3.2.2.2.2.2.2.1, s_3.2.2.2.2.2.2.2.1, s_3.2.2.2.2.2.2.2.2.1, s_3.2.2.2.2.2.2.2.2.2.1, s_3.2.2.2.2.2.2.2.2.2.2) (hr_3 _ rfl)
    · skip
      refine ii_aload_n 0 dX4_weigh_32 rfl ?_
      refine ii_get (C := RX4) (T := TX4) (N := 9) (ci := 4) izX4 0 rfl rfl 1 (by decide) kX4_38 rfl dX4_weigh_33 ?_
      refine ii_iload_n 2 dX4_weigh_36 rfl ?_
      refine ii_iload_n 1 dX4_weigh_37 rfl ?_
      obtain ⟨c_5, hc_5, h⟩ := bnd h
      refine ii_callVl (As := [.int s_3.1, .int p0]) (ws' := [(a_this, .inr (4, [.ref a_this_house, .ref a_this_ledger, .ref a_this_balances, .ref a_this_pairs, .ref a_this_uneven, .ref a_this_sums, .ref a_this_sets, .ref a_this_steps, .ref a_this_ring])), (a_this_balances, .inl (cJ, 10, .inr (.inl s_3.2.1))), (a_this_house, .inr (0, [.ref a_this_house_merchants, .ref a_this_house_texts, .ref a_this_house_acts, .ref a_this_house_debts, .ref a_this_house_payments, .ref a_this_house_purses, .ref a_this_house_gates, .ref a_this_house_stones, .ref a_this_house_told, .ref a_this_house_letters, .ref a_this_house_mentions, .ref a_this_house_loads, .ref a_this_house_prices, .int v_this_house_narrow, .int v_this_house_names])), (a_this_house_acts, .inr (8, [.int (104 : Int32), .int (16 : Int32), .ref a_this_house_acts_cells, .int v_this_house_acts_rows])), (a_this_house_acts_cells, .inl (cI, 1664, .inl v_this_house_acts_cells)), (a_this_house_debts, .inr (8, [.int (7 : Int32), .int (40 : Int32), .ref a_this_house_debts_cells, .int v_this_house_debts_rows])), (a_this_house_debts_cells, .inl (cI, 280, .inl v_this_house_debts_cells)), (a_this_house_merchants, .inr (8, [.int (2 : Int32), .int (10 : Int32), .ref a_this_house_merchants_cells, .int v_this_house_merchants_rows])), (a_this_house_merchants_cells, .inl (cI, 20, .inl v_this_house_merchants_cells)), (a_this_house_payments, .inr (8, [.int (3 : Int32), .int (60 : Int32), .ref a_this_house_payments_cells, .int v_this_house_payments_rows])), (a_this_house_payments_cells, .inl (cI, 180, .inl v_this_house_payments_cells)), (a_this_ledger, .inr (2, [.ref a_this_house, .ref a_this_ledger_law, .ref a_this_ledger_paid])), (a_this_ledger_law, .inr (1, [.ref a_this_house, .ref a_this_ledger_law_stack, .int c_5.2.2.2.1, .int c_5.2.2.1, .int c_5.2.2.2.2.1, .int c_5.2.2.2.2.2.2.2.1, .int c_5.2.2.2.2.2.1, .long c_5.2.1])), (a_this_ledger_law_stack, .inl (cJ, 50, .inr (.inl c_5.2.2.2.2.2.2.1))), (a_this_ledger_paid, .inl (cJ, 100, .inr (.inl c_5.2.2.2.2.2.2.2.2))), (a_this_pairs, .inl (cJ, 100, .inr (.inl s_3.2.2.2.2.2.2.2.2.2.2)))]) (st := []) (c_X2_left l D cI cJ cZ cH a_this_ledger a_this_house a_this_house_acts a_this_house_acts_cells a_this_house_debts a_this_house_debts_cells a_this_house_gates a_this_house_letters a_this_house_loads a_this_house_mentions a_this_house_merchants a_this_house_merchants_cells a_this_house_payments a_this_house_payments_cells a_this_house_prices a_this_house_purses a_this_house_stones a_this_house_texts a_this_house_told a_this_ledger_law a_this_ledger_law_stack a_this_ledger_paid v_this_house_acts_cells v_this_house_acts_rows v_this_house_debts_cells v_this_house_debts_rows v_this_house_merchants_cells v_this_house_merchants_rows v_this_house_names v_this_house_narrow v_this_house_payments_cells v_this_house_payments_rows s_3.2.2.1 s_3.2.2.2.1 s_3.2.2.2.2.1 s_3.2.2.2.2.2.1 s_3.2.2.2.2.2.2.1 s_3.2.2.2.2.2.2.2.1 s_3.2.2.2.2.2.2.2.2.1 s_3.2.2.2.2.2.2.2.2.2.1 s_3.1 p0 hc_5) gzX4_60 rfl rfl rfl eV_X2_left ⟨Nat.le_of_ble_eq_true rfl, Nat.le_of_ble_eq_true rfl⟩ rfl 11 rfl rfl [11, 2, 3, 4, 5, 6, 7, 8, 9, 10, 12, 13, 14] rfl rfl rfl rfl rfl (Nat.le_of_ble_eq_true rfl) (Nat.le_refl _) (Nat.le_refl _) rfl dX4_weigh_38 ?_
      refine ii_lstore_n (lv' := [(3, .long c_5.1), (0, .ref a_this), (1, .int p0), (2, .int s_3.1)]) dX4_weigh_41 rfl (by decide) rfl ?_
      refine ii_aload_n 1 dX4_weigh_42 rfl ?_
      refine ii_get (C := RX4) (T := TX4) (N := 9) (ci := 4) izX4 0 rfl rfl 0 (by decide) kX4_34 rfl dX4_weigh_43 ?_
      refine ii_get (C := RX0) (T := TX0) (N := 15) (ci := 0) izX0 2 rfl rfl 3 (by decide) kX4_48 rfl dX4_weigh_46 ?_
      refine ii_iload_n 3 dX4_weigh_49 rfl ?_
      refine ii_iconst dX4_weigh_50 kc0 ?_
      obtain ⟨c_6, hc_6, h⟩ := bnd h
      refine ii_callVi (As := [.int s_3.1, .int (0 : Int32)]) (ws' := [(a_this, .inr (4, [.ref a_this_house, .ref a_this_ledger, .ref a_this_balances, .ref a_this_pairs, .ref a_this_uneven, .ref a_this_sums, .ref a_this_sets, .ref a_this_steps, .ref a_this_ring])), (a_this_balances, .inl (cJ, 10, .inr (.inl s_3.2.1))), (a_this_house, .inr (0, [.ref a_this_house_merchants, .ref a_this_house_texts, .ref a_this_house_acts, .ref a_this_house_debts, .ref a_this_house_payments, .ref a_this_house_purses, .ref a_this_house_gates, .ref a_this_house_stones, .ref a_this_house_told, .ref a_this_house_letters, .ref a_this_house_mentions, .ref a_this_house_loads, .ref a_this_house_prices, .int v_this_house_narrow, .int v_this_house_names])), (a_this_house_acts, .inr (8, [.int (104 : Int32), .int (16 : Int32), .ref a_this_house_acts_cells, .int v_this_house_acts_rows])), (a_this_house_acts_cells, .inl (cI, 1664, .inl v_this_house_acts_cells)), (a_this_house_debts, .inr (8, [.int (7 : Int32), .int (40 : Int32), .ref a_this_house_debts_cells, .int v_this_house_debts_rows])), (a_this_house_debts_cells, .inl (cI, 280, .inl v_this_house_debts_cells)), (a_this_house_merchants, .inr (8, [.int (2 : Int32), .int (10 : Int32), .ref a_this_house_merchants_cells, .int v_this_house_merchants_rows])), (a_this_house_merchants_cells, .inl (cI, 20, .inl v_this_house_merchants_cells)), (a_this_house_payments, .inr (8, [.int (3 : Int32), .int (60 : Int32), .ref a_this_house_payments_cells, .int v_this_house_payments_rows])), (a_this_house_payments_cells, .inl (cI, 180, .inl v_this_house_payments_cells)), (a_this_ledger, .inr (2, [.ref a_this_house, .ref a_this_ledger_law, .ref a_this_ledger_paid])), (a_this_ledger_law, .inr (1, [.ref a_this_house, .ref a_this_ledger_law_stack, .int c_5.2.2.2.1, .int c_5.2.2.1, .int c_5.2.2.2.2.1, .int c_5.2.2.2.2.2.2.2.1, .int c_5.2.2.2.2.2.1, .long c_5.2.1])), (a_this_ledger_law_stack, .inl (cJ, 50, .inr (.inl c_5.2.2.2.2.2.2.1))), (a_this_ledger_paid, .inl (cJ, 100, .inr (.inl c_5.2.2.2.2.2.2.2.2))), (a_this_pairs, .inl (cJ, 100, .inr (.inl s_3.2.2.2.2.2.2.2.2.2.2)))]) (st := []) (c_X8_get l D cI cJ cZ cH a_this_house_debts a_this_house_debts_cells 280 v_this_house_debts_cells (40 : Int32) v_this_house_debts_rows (7 : Int32) s_3.1 (0 : Int32) hc_6) gzX4_66 rfl rfl rfl eV_X8_get ⟨Nat.le_of_ble_eq_true rfl, Nat.le_of_ble_eq_true rfl⟩ rfl 5 rfl rfl [5, 6] rfl rfl rfl rfl rfl (Nat.le_of_ble_eq_true rfl) (Nat.le_refl _) (Nat.le_refl _) rfl dX4_weigh_51 ?_
      refine ii_istore (lv' := [(5, .int c_6), (3, .long c_5.1), (0, .ref a_this), (1, .int p0), (2, .int s_3.1)]) dX4_weigh_54 (by decide) rfl ?_
      refine ii_aload_n 2 dX4_weigh_56 rfl ?_
      refine ii_get (C := RX4) (T := TX4) (N := 9) (ci := 4) izX4 0 rfl rfl 0 (by decide) kX4_34 rfl dX4_weigh_57 ?_
      refine ii_get (C := RX0) (T := TX0) (N := 15) (ci := 0) izX0 2 rfl rfl 3 (by decide) kX4_48 rfl dX4_weigh_60 ?_
      refine ii_iload_n 4 dX4_weigh_63 rfl ?_
      refine ii_iconst dX4_weigh_64 kc1 ?_
      obtain ⟨c_7, hc_7, h⟩ := bnd h
      refine ii_callVi (As := [.int s_3.1, .int (1 : Int32)]) (ws' := [(a_this, .inr (4, [.ref a_this_house, .ref a_this_ledger, .ref a_this_balances, .ref a_this_pairs, .ref a_this_uneven, .ref a_this_sums, .ref a_this_sets, .ref a_this_steps, .ref a_this_ring])), (a_this_balances, .inl (cJ, 10, .inr (.inl s_3.2.1))), (a_this_house, .inr (0, [.ref a_this_house_merchants, .ref a_this_house_texts, .ref a_this_house_acts, .ref a_this_house_debts, .ref a_this_house_payments, .ref a_this_house_purses, .ref a_this_house_gates, .ref a_this_house_stones, .ref a_this_house_told, .ref a_this_house_letters, .ref a_this_house_mentions, .ref a_this_house_loads, .ref a_this_house_prices, .int v_this_house_narrow, .int v_this_house_names])), (a_this_house_acts, .inr (8, [.int (104 : Int32), .int (16 : Int32), .ref a_this_house_acts_cells, .int v_this_house_acts_rows])), (a_this_house_acts_cells, .inl (cI, 1664, .inl v_this_house_acts_cells)), (a_this_house_debts, .inr (8, [.int (7 : Int32), .int (40 : Int32), .ref a_this_house_debts_cells, .int v_this_house_debts_rows])), (a_this_house_debts_cells, .inl (cI, 280, .inl v_this_house_debts_cells)), (a_this_house_merchants, .inr (8, [.int (2 : Int32), .int (10 : Int32), .ref a_this_house_merchants_cells, .int v_this_house_merchants_rows])), (a_this_house_merchants_cells, .inl (cI, 20, .inl v_this_house_merchants_cells)), (a_this_house_payments, .inr (8, [.int (3 : Int32), .int (60 : Int32), .ref a_this_house_payments_cells, .int v_this_house_payments_rows])), (a_this_house_payments_cells, .inl (cI, 180, .inl v_this_house_payments_cells)), (a_this_ledger, .inr (2, [.ref a_this_house, .ref a_this_ledger_law, .ref a_this_ledger_paid])), (a_this_ledger_law, .inr (1, [.ref a_this_house, .ref a_this_ledger_law_stack, .int c_5.2.2.2.1, .int c_5.2.2.1, .int c_5.2.2.2.2.1, .int c_5.2.2.2.2.2.2.2.1, .int c_5.2.2.2.2.2.1, .long c_5.2.1])), (a_this_ledger_law_stack, .inl (cJ, 50, .inr (.inl c_5.2.2.2.2.2.2.1))), (a_this_ledger_paid, .inl (cJ, 100, .inr (.inl c_5.2.2.2.2.2.2.2.2))), (a_this_pairs, .inl (cJ, 100, .inr (.inl s_3.2.2.2.2.2.2.2.2.2.2)))]) (st := []) (c_X8_get l D cI cJ cZ cH a_this_house_debts a_this_house_debts_cells 280 v_this_house_debts_cells (40 : Int32) v_this_house_debts_rows (7 : Int32) s_3.1 (1 : Int32) hc_7) gzX4_66 rfl rfl rfl eV_X8_get ⟨Nat.le_of_ble_eq_true rfl, Nat.le_of_ble_eq_true rfl⟩ rfl 5 rfl rfl [5, 6] rfl rfl rfl rfl rfl (Nat.le_of_ble_eq_true rfl) (Nat.le_refl _) (Nat.le_refl _) rfl dX4_weigh_65 ?_
      refine ii_istore (lv' := [(6, .int c_7), (5, .int c_6), (3, .long c_5.1), (0, .ref a_this), (1, .int p0), (2, .int s_3.1)]) dX4_weigh_68 (by decide) rfl ?_
      refine ii_aload_n 3 dX4_weigh_70 rfl ?_
      refine ii_iload 1 dX4_weigh_71 rfl ?_
      refine ii_lload_n 2 dX4_weigh_73 rfl ?_
      obtain ⟨c_8, hc_8, h⟩ := bnd h
      refine ii_callVv (As := [.int c_6, .long c_5.1]) (ws' := [(a_this, .inr (4, [.ref a_this_house, .ref a_this_ledger, .ref a_this_balances, .ref a_this_pairs, .ref a_this_uneven, .ref a_this_sums, .ref a_this_sets, .ref a_this_steps, .ref a_this_ring])), (a_this_balances, .inl (cJ, 10, .inr (.inl c_8))), (a_this_house, .inr (0, [.ref a_this_house_merchants, .ref a_this_house_texts, .ref a_this_house_acts, .ref a_this_house_debts, .ref a_this_house_payments, .ref a_this_house_purses, .ref a_this_house_gates, .ref a_this_house_stones, .ref a_this_house_told, .ref a_this_house_letters, .ref a_this_house_mentions, .ref a_this_house_loads, .ref a_this_house_prices, .int v_this_house_narrow, .int v_this_house_names])), (a_this_house_acts, .inr (8, [.int (104 : Int32), .int (16 : Int32), .ref a_this_house_acts_cells, .int v_this_house_acts_rows])), (a_this_house_acts_cells, .inl (cI, 1664, .inl v_this_house_acts_cells)), (a_this_house_debts, .inr (8, [.int (7 : Int32), .int (40 : Int32), .ref a_this_house_debts_cells, .int v_this_house_debts_rows])), (a_this_house_debts_cells, .inl (cI, 280, .inl v_this_house_debts_cells)), (a_this_house_merchants, .inr (8, [.int (2 : Int32), .int (10 : Int32), .ref a_this_house_merchants_cells, .int v_this_house_merchants_rows])), (a_this_house_merchants_cells, .inl (cI, 20, .inl v_this_house_merchants_cells)), (a_this_house_payments, .inr (8, [.int (3 : Int32), .int (60 : Int32), .ref a_this_house_payments_cells, .int v_this_house_payments_rows])), (a_this_house_payments_cells, .inl (cI, 180, .inl v_this_house_payments_cells)), (a_this_ledger, .inr (2, [.ref a_this_house, .ref a_this_ledger_law, .ref a_this_ledger_paid])), (a_this_ledger_law, .inr (1, [.ref a_this_house, .ref a_this_ledger_law_stack, .int c_5.2.2.2.1, .int c_5.2.2.1, .int c_5.2.2.2.2.1, .int c_5.2.2.2.2.2.2.2.1, .int c_5.2.2.2.2.2.1, .long c_5.2.1])), (a_this_ledger_law_stack, .inl (cJ, 50, .inr (.inl c_5.2.2.2.2.2.2.1))), (a_this_ledger_paid, .inl (cJ, 100, .inr (.inl c_5.2.2.2.2.2.2.2.2))), (a_this_pairs, .inl (cJ, 100, .inr (.inl s_3.2.2.2.2.2.2.2.2.2.2)))]) (st := []) (c_X4_book l D cI cJ cZ cH a_this a_this_balances a_this_house a_this_ledger a_this_pairs a_this_ring a_this_sets a_this_steps a_this_sums a_this_uneven s_3.2.1 c_6 c_5.1 hc_8) gzX4_70 rfl rfl rfl eV_X4_book ⟨Nat.le_of_ble_eq_true rfl, Nat.le_of_ble_eq_true rfl⟩ rfl 0 rfl rfl [0, 1] rfl rfl rfl rfl rfl (Nat.le_of_ble_eq_true rfl) (Nat.le_refl _) (Nat.le_refl _) rfl dX4_weigh_74 ?_
      refine ii_aload_n 3 dX4_weigh_77 rfl ?_
      refine ii_iload 0 dX4_weigh_78 rfl ?_
      refine ii_lload_n 2 dX4_weigh_80 rfl ?_
      refine ii_lneg dX4_weigh_81 ?_
      obtain ⟨c_9, hc_9, h⟩ := bnd h
      refine ii_callVv (As := [.int c_7, .long (-c_5.1)]) (ws' := [(a_this, .inr (4, [.ref a_this_house, .ref a_this_ledger, .ref a_this_balances, .ref a_this_pairs, .ref a_this_uneven, .ref a_this_sums, .ref a_this_sets, .ref a_this_steps, .ref a_this_ring])), (a_this_balances, .inl (cJ, 10, .inr (.inl c_9))), (a_this_house, .inr (0, [.ref a_this_house_merchants, .ref a_this_house_texts, .ref a_this_house_acts, .ref a_this_house_debts, .ref a_this_house_payments, .ref a_this_house_purses, .ref a_this_house_gates, .ref a_this_house_stones, .ref a_this_house_told, .ref a_this_house_letters, .ref a_this_house_mentions, .ref a_this_house_loads, .ref a_this_house_prices, .int v_this_house_narrow, .int v_this_house_names])), (a_this_house_acts, .inr (8, [.int (104 : Int32), .int (16 : Int32), .ref a_this_house_acts_cells, .int v_this_house_acts_rows])), (a_this_house_acts_cells, .inl (cI, 1664, .inl v_this_house_acts_cells)), (a_this_house_debts, .inr (8, [.int (7 : Int32), .int (40 : Int32), .ref a_this_house_debts_cells, .int v_this_house_debts_rows])), (a_this_house_debts_cells, .inl (cI, 280, .inl v_this_house_debts_cells)), (a_this_house_merchants, .inr (8, [.int (2 : Int32), .int (10 : Int32), .ref a_this_house_merchants_cells, .int v_this_house_merchants_rows])), (a_this_house_merchants_cells, .inl (cI, 20, .inl v_this_house_merchants_cells)), (a_this_house_payments, .inr (8, [.int (3 : Int32), .int (60 : Int32), .ref a_this_house_payments_cells, .int v_this_house_payments_rows])), (a_this_house_payments_cells, .inl (cI, 180, .inl v_this_house_payments_cells)), (a_this_ledger, .inr (2, [.ref a_this_house, .ref a_this_ledger_law, .ref a_this_ledger_paid])), (a_this_ledger_law, .inr (1, [.ref a_this_house, .ref a_this_ledger_law_stack, .int c_5.2.2.2.1, .int c_5.2.2.1, .int c_5.2.2.2.2.1, .int c_5.2.2.2.2.2.2.2.1, .int c_5.2.2.2.2.2.1, .long c_5.2.1])), (a_this_ledger_law_stack, .inl (cJ, 50, .inr (.inl c_5.2.2.2.2.2.2.1))), (a_this_ledger_paid, .inl (cJ, 100, .inr (.inl c_5.2.2.2.2.2.2.2.2))), (a_this_pairs, .inl (cJ, 100, .inr (.inl s_3.2.2.2.2.2.2.2.2.2.2)))]) (st := []) (c_X4_book l D cI cJ cZ cH a_this a_this_balances a_this_house a_this_ledger a_this_pairs a_this_ring a_this_sets a_this_steps a_this_sums a_this_uneven c_8 c_7 (-c_5.1) hc_9) gzX4_70 rfl rfl rfl eV_X4_book ⟨Nat.le_of_ble_eq_true rfl, Nat.le_of_ble_eq_true rfl⟩ rfl 0 rfl rfl [0, 1] rfl rfl rfl rfl rfl (Nat.le_of_ble_eq_true rfl) (Nat.le_refl _) (Nat.le_refl _) rfl dX4_weigh_82 ?_
      refine ii_iload 0 dX4_weigh_85 rfl ?_
      refine ii_iload 1 dX4_weigh_87 rfl ?_
      obtain ⟨c_10, hc_10, h⟩ := bnd h
      refine ii_callSi (As := [.int c_7, .int c_6]) (ws' := [(a_this, .inr (4, [.ref a_this_house, .ref a_this_ledger, .ref a_this_balances, .ref a_this_pairs, .ref a_this_uneven, .ref a_this_sums, .ref a_this_sets, .ref a_this_steps, .ref a_this_ring])), (a_this_balances, .inl (cJ, 10, .inr (.inl c_9))), (a_this_house, .inr (0, [.ref a_this_house_merchants, .ref a_this_house_texts, .ref a_this_house_acts, .ref a_this_house_debts, .ref a_this_house_payments, .ref a_this_house_purses, .ref a_this_house_gates, .ref a_this_house_stones, .ref a_this_house_told, .ref a_this_house_letters, .ref a_this_house_mentions, .ref a_this_house_loads, .ref a_this_house_prices, .int v_this_house_narrow, .int v_this_house_names])), (a_this_house_acts, .inr (8, [.int (104 : Int32), .int (16 : Int32), .ref a_this_house_acts_cells, .int v_this_house_acts_rows])), (a_this_house_acts_cells, .inl (cI, 1664, .inl v_this_house_acts_cells)), (a_this_house_debts, .inr (8, [.int (7 : Int32), .int (40 : Int32), .ref a_this_house_debts_cells, .int v_this_house_debts_rows])), (a_this_house_debts_cells, .inl (cI, 280, .inl v_this_house_debts_cells)), (a_this_house_merchants, .inr (8, [.int (2 : Int32), .int (10 : Int32), .ref a_this_house_merchants_cells, .int v_this_house_merchants_rows])), (a_this_house_merchants_cells, .inl (cI, 20, .inl v_this_house_merchants_cells)), (a_this_house_payments, .inr (8, [.int (3 : Int32), .int (60 : Int32), .ref a_this_house_payments_cells, .int v_this_house_payments_rows])), (a_this_house_payments_cells, .inl (cI, 180, .inl v_this_house_payments_cells)), (a_this_ledger, .inr (2, [.ref a_this_house, .ref a_this_ledger_law, .ref a_this_ledger_paid])), (a_this_ledger_law, .inr (1, [.ref a_this_house, .ref a_this_ledger_law_stack, .int c_5.2.2.2.1, .int c_5.2.2.1, .int c_5.2.2.2.2.1, .int c_5.2.2.2.2.2.2.2.1, .int c_5.2.2.2.2.2.1, .long c_5.2.1])), (a_this_ledger_law_stack, .inl (cJ, 50, .inr (.inl c_5.2.2.2.2.2.2.1))), (a_this_ledger_paid, .inl (cJ, 100, .inr (.inl c_5.2.2.2.2.2.2.2.2))), (a_this_pairs, .inl (cJ, 100, .inr (.inl s_3.2.2.2.2.2.2.2.2.2.2)))]) (st := []) (c_X4_pairOf l D cI cJ cZ cH c_7 c_6 hc_10) gzX4_74 rfl rfl rfl eS_X4_pairOf ⟨Nat.le_of_ble_eq_true rfl, Nat.le_of_ble_eq_true rfl⟩ rfl [] rfl rfl rfl rfl rfl (Nat.le_of_ble_eq_true rfl) (Nat.le_refl _) (Nat.le_refl _) rfl dX4_weigh_89 ?_
      refine ii_istore (lv' := [(7, .int c_10), (6, .int c_7), (5, .int c_6), (3, .long c_5.1), (0, .ref a_this), (1, .int p0), (2, .int s_3.1)]) dX4_weigh_92 (by decide) rfl ?_
      refine ii_iload 0 dX4_weigh_94 rfl ?_
      refine ii_jn h (fun j_11 => [(a_this, .inr (4, [.ref a_this_house, .ref a_this_ledger, .ref a_this_balances, .ref a_this_pairs, .ref a_this_uneven, .ref a_this_sums, .ref a_this_sets, .ref a_this_steps, .ref a_this_ring])), (a_this_balances, .inl (cJ, 10, .inr (.inl c_9))), (a_this_house, .inr (0, [.ref a_this_house_merchants, .ref a_this_house_texts, .ref a_this_house_acts, .ref a_this_house_debts, .ref a_this_house_payments, .ref a_this_house_purses, .ref a_this_house_gates, .ref a_this_house_stones, .ref a_this_house_told, .ref a_this_house_letters, .ref a_this_house_mentions, .ref a_this_house_loads, .ref a_this_house_prices, .int v_this_house_narrow, .int v_this_house_names])), (a_this_house_acts, .inr (8, [.int (104 : Int32), .int (16 : Int32), .ref a_this_house_acts_cells, .int v_this_house_acts_rows])), (a_this_house_acts_cells, .inl (cI, 1664, .inl v_this_house_acts_cells)), (a_this_house_debts, .inr (8, [.int (7 : Int32), .int (40 : Int32), .ref a_this_house_debts_cells, .int v_this_house_debts_rows])), (a_this_house_debts_cells, .inl (cI, 280, .inl v_this_house_debts_cells)), (a_this_house_merchants, .inr (8, [.int (2 : Int32), .int (10 : Int32), .ref a_this_house_merchants_cells, .int v_this_house_merchants_rows])), (a_this_house_merchants_cells, .inl (cI, 20, .inl v_this_house_merchants_cells)), (a_this_house_payments, .inr (8, [.int (3 : Int32), .int (60 : Int32), .ref a_this_house_payments_cells, .int v_this_house_payments_rows])), (a_this_house_payments_cells, .inl (cI, 180, .inl v_this_house_payments_cells)), (a_this_ledger, .inr (2, [.ref a_this_house, .ref a_this_ledger_law, .ref a_this_ledger_paid])), (a_this_ledger_law, .inr (1, [.ref a_this_house, .ref a_this_ledger_law_stack, .int c_5.2.2.2.1, .int c_5.2.2.1, .int c_5.2.2.2.2.1, .int c_5.2.2.2.2.2.2.2.1, .int c_5.2.2.2.2.2.1, .long c_5.2.1])), (a_this_ledger_law_stack, .inl (cJ, 50, .inr (.inl c_5.2.2.2.2.2.2.1))), (a_this_ledger_paid, .inl (cJ, 100, .inr (.inl c_5.2.2.2.2.2.2.2.2))), (a_this_pairs, .inl (cJ, 100, .inr (.inl j_11)))]) (fun j_11 => [(0, .ref a_this), (1, .int p0), (2, .int s_3.1)]) 120 (fun j_11 => []) (fun j_11 h => ?_) (fun j_11 h hjj_11 => ?_)
      · skip
        refine ii_iinc (fun x_14 => [(2, .int x_14), (0, .ref a_this), (1, .int p0)]) h 2 dX4_weigh_120 rfl kc1 (by decide) (fun _ => rfl) (fun x_14 h => ?_)
        refine ii_goto (tgt := 18) dX4_weigh_123 (by decide) ?_
        refine ii_lv [1, 2, 0] rfl ?_
        cases h
        exact hb_3 (x_14, c_9, c_5.2.1, c_5.2.2.1, c_5.2.2.2.1, c_5.2.2.2.2.1, c_5.2.2.2.2.2.1, c_5.2.2.2.2.2.2.1, c_5.2.2.2.2.2.2.2.1, c_5.2.2.2.2.2.2.2.2, j_11) rfl
      · skip
        refine ii_if_lt (tgt := 120) h dX4_weigh_96 (by decide) (fun h => ?_) (fun h => ?_)
        · skip
          refine ii_lv [4, 5, 6] rfl ?_
          cases h
          exact hjj_11
        · skip
          refine ii_iload 0 dX4_weigh_99 rfl ?_
          refine ii_aload_n 4 dX4_weigh_101 rfl ?_
          refine ii_get (C := RX4) (T := TX4) (N := 9) (ci := 4) izX4 0 rfl rfl 3 (by decide) kX4_15 rfl dX4_weigh_102 ?_
          refine ii_alen (v := (100 : Int32)) 15 1 rfl rfl rfl dX4_weigh_105 ?_
          refine ii_icmp_ge (tgt := 120) h dX4_weigh_106 (by decide) (fun h => ?_) (fun h => ?_)
          · skip
            refine ii_lv [4, 5, 6] rfl ?_
            cases h
            exact hjj_11
          · skip
            refine ii_aload_n 4 dX4_weigh_109 rfl ?_
            refine ii_get (C := RX4) (T := TX4) (N := 9) (ci := 4) izX4 0 rfl rfl 3 (by decide) kX4_15 rfl dX4_weigh_110 ?_
            refine ii_iload 0 dX4_weigh_113 rfl ?_
            refine ii_dup2 dX4_weigh_115 rfl rfl ?_
            refine ii_lald h 15 1 rfl rfl dX4_weigh_116 (fun t_12 h => ?_)
            refine ii_lload_n 3 dX4_weigh_117 rfl ?_
            refine ii_ladd dX4_weigh_118 ?_
            refine ii_last (fun g_13 => [(a_this, .inr (4, [.ref a_this_house, .ref a_this_ledger, .ref a_this_balances, .ref a_this_pairs, .ref a_this_uneven, .ref a_this_sums, .ref a_this_sets, .ref a_this_steps, .ref a_this_ring])), (a_this_balances, .inl (cJ, 10, .inr (.inl c_9))), (a_this_house, .inr (0, [.ref a_this_house_merchants, .ref a_this_house_texts, .ref a_this_house_acts, .ref a_this_house_debts, .ref a_this_house_payments, .ref a_this_house_purses, .ref a_this_house_gates, .ref a_this_house_stones, .ref a_this_house_told, .ref a_this_house_letters, .ref a_this_house_mentions, .ref a_this_house_loads, .ref a_this_house_prices, .int v_this_house_narrow, .int v_this_house_names])), (a_this_house_acts, .inr (8, [.int (104 : Int32), .int (16 : Int32), .ref a_this_house_acts_cells, .int v_this_house_acts_rows])), (a_this_house_acts_cells, .inl (cI, 1664, .inl v_this_house_acts_cells)), (a_this_house_debts, .inr (8, [.int (7 : Int32), .int (40 : Int32), .ref a_this_house_debts_cells, .int v_this_house_debts_rows])), (a_this_house_debts_cells, .inl (cI, 280, .inl v_this_house_debts_cells)), (a_this_house_merchants, .inr (8, [.int (2 : Int32), .int (10 : Int32), .ref a_this_house_merchants_cells, .int v_this_house_merchants_rows])), (a_this_house_merchants_cells, .inl (cI, 20, .inl v_this_house_merchants_cells)), (a_this_house_payments, .inr (8, [.int (3 : Int32), .int (60 : Int32), .ref a_this_house_payments_cells, .int v_this_house_payments_rows])), (a_this_house_payments_cells, .inl (cI, 180, .inl v_this_house_payments_cells)), (a_this_ledger, .inr (2, [.ref a_this_house, .ref a_this_ledger_law, .ref a_this_ledger_paid])), (a_this_ledger_law, .inr (1, [.ref a_this_house, .ref a_this_ledger_law_stack, .int c_5.2.2.2.1, .int c_5.2.2.1, .int c_5.2.2.2.2.1, .int c_5.2.2.2.2.2.2.2.1, .int c_5.2.2.2.2.2.1, .long c_5.2.1])), (a_this_ledger_law_stack, .inl (cJ, 50, .inr (.inl c_5.2.2.2.2.2.2.1))), (a_this_ledger_paid, .inl (cJ, 100, .inr (.inl c_5.2.2.2.2.2.2.2.2))), (a_this_pairs, .inl (cJ, 100, .inr (.inl g_13)))]) h 15 1 rfl rfl dX4_weigh_119 (fun _ => rfl) (fun g_13 h => ?_)
            refine ii_lv [4, 5, 6] rfl ?_
            cases h
            exact hjj_11
set_option maxHeartbeats 4000000 in
set_option maxRecDepth 100000 in
theorem c_X4_isOwing (l : Launch) (D : va_G) (cI cJ cZ cH : ClassId) (a_this a_this_balances a_this_house a_this_ledger a_this_pairs a_this_ring a_this_sets a_this_steps a_this_sums a_this_uneven : Nat) (v_this_pairs : Nat → Int64) (p0 : Int32) (p1 : Int32) {res : Int32} (h : F_X4_isOwing v_this_pairs p0 p1 = some res) : CTi l yX4_isOwing wzX4_isOwing { frames := 1, cells := 0, slots := 0, locals := 22 } D [(cI, .int), (cJ, .long), (cZ, .boolean), (cH, .object "TinHouse$House")] [.ref a_this, .int p0, .int p1] [(a_this, .inr (4, [.ref a_this_house, .ref a_this_ledger, .ref a_this_balances, .ref a_this_pairs, .ref a_this_uneven, .ref a_this_sums, .ref a_this_sets, .ref a_this_steps, .ref a_this_ring])), (a_this_pairs, .inl (cJ, 100, .inr (.inl v_this_pairs)))] res [(a_this, .inr (4, [.ref a_this_house, .ref a_this_ledger, .ref a_this_balances, .ref a_this_pairs, .ref a_this_uneven, .ref a_this_sums, .ref a_this_sets, .ref a_this_steps, .ref a_this_ring])), (a_this_pairs, .inl (cJ, 100, .inr (.inl v_this_pairs)))] := by
  unfold F_X4_isOwing at h
  refine ii_metZ (own := RX4) (lv0 := [(0, .ref a_this), (1, .int p0), (2, .int p1)]) (by decide) rfl rfl rfl (Nat.le_of_ble_eq_true rfl) (fun {p e s m args below meth c A Q} hQ => ?_)
  refine ii_iload_n 1 dX4_isOwing_0 rfl ?_
  refine ii_iload_n 2 dX4_isOwing_1 rfl ?_
  obtain ⟨c_1, hc_1, h⟩ := bnd h
  refine ii_callSi (As := [.int p0, .int p1]) (ws' := [(a_this, .inr (4, [.ref a_this_house, .ref a_this_ledger, .ref a_this_balances, .ref a_this_pairs, .ref a_this_uneven, .ref a_this_sums, .ref a_this_sets, .ref a_this_steps, .ref a_this_ring])), (a_this_pairs, .inl (cJ, 100, .inr (.inl v_this_pairs)))]) (st := []) (c_X4_pairOf l D cI cJ cZ cH p0 p1 hc_1) gzX4_74 rfl rfl rfl eS_X4_pairOf ⟨Nat.le_of_ble_eq_true rfl, Nat.le_of_ble_eq_true rfl⟩ rfl [] rfl rfl rfl rfl rfl (Nat.le_of_ble_eq_true rfl) (Nat.le_refl _) (Nat.le_refl _) rfl dX4_isOwing_2 ?_
  refine ii_istore_n (lv' := [(3, .int c_1), (0, .ref a_this), (1, .int p0), (2, .int p1)]) dX4_isOwing_5 rfl (by decide) rfl ?_
  refine ii_iload_n 0 dX4_isOwing_6 rfl ?_
  refine ii_jn h (fun j_2 => [(a_this, .inr (4, [.ref a_this_house, .ref a_this_ledger, .ref a_this_balances, .ref a_this_pairs, .ref a_this_uneven, .ref a_this_sums, .ref a_this_sets, .ref a_this_steps, .ref a_this_ring])), (a_this_pairs, .inl (cJ, 100, .inr (.inl v_this_pairs)))]) (fun j_2 => []) 35 (fun j_2 => [.int j_2]) (fun j_2 h => ?_) (fun j_2 h hjj_2 => ?_)
  · skip
    refine ii_topB h (fun t_4 hz_5 h => ?_)
    cases h
    exact hQ _ _ dX4_isOwing_35 hz_5
  · skip
    refine ii_if_lt (tgt := 34) h dX4_isOwing_7 (by decide) (fun h => ?_) (fun h => ?_)
    · skip
      refine ii_iconst dX4_isOwing_34 kc0 ?_
      refine ii_lv [] rfl ?_
      cases h
      exact hjj_2
    · skip
      refine ii_iload_n 0 dX4_isOwing_10 rfl ?_
      refine ii_aload_n 1 dX4_isOwing_11 rfl ?_
      refine ii_get (C := RX4) (T := TX4) (N := 9) (ci := 4) izX4 0 rfl rfl 3 (by decide) kX4_15 rfl dX4_isOwing_12 ?_
      refine ii_alen (v := (100 : Int32)) 1 1 rfl rfl rfl dX4_isOwing_15 ?_
      refine ii_icmp_ge (tgt := 34) h dX4_isOwing_16 (by decide) (fun h => ?_) (fun h => ?_)
      · skip
        refine ii_iconst dX4_isOwing_34 kc0 ?_
        refine ii_lv [] rfl ?_
        cases h
        exact hjj_2
      · skip
        refine ii_aload_n 1 dX4_isOwing_19 rfl ?_
        refine ii_get (C := RX4) (T := TX4) (N := 9) (ci := 4) izX4 0 rfl rfl 3 (by decide) kX4_15 rfl dX4_isOwing_20 ?_
        refine ii_iload_n 0 dX4_isOwing_23 rfl ?_
        refine ii_lald h 1 1 rfl rfl dX4_isOwing_24 (fun t_3 h => ?_)
        refine ii_lconst dX4_isOwing_25 kl0 ?_
        refine ii_lcmp_le (tgt := 34) h dX4_isOwing_26 dX4_isOwing_27 (by decide) (fun h => ?_) (fun h => ?_)
        · skip
          refine ii_iconst dX4_isOwing_34 kc0 ?_
          refine ii_lv [] rfl ?_
          cases h
          exact hjj_2
        · skip
          refine ii_iconst dX4_isOwing_30 kc1 ?_
          refine ii_goto (tgt := 35) dX4_isOwing_31 (by decide) ?_
          refine ii_lv [] rfl ?_
          cases h
          exact hjj_2
set_option maxHeartbeats 4000000 in
set_option maxRecDepth 100000 in
theorem c_X4_of (l : Launch) (D : va_G) (cI cJ cZ cH : ClassId) (a_this a_this_balances a_this_house a_this_ledger a_this_pairs a_this_ring a_this_sets a_this_steps a_this_sums a_this_uneven : Nat) (v_this_balances : Nat → Int64) (p0 : Int32) {res : Int64} (h : F_X4_of v_this_balances p0 = some res) : CTl l yX4_of wzX4_of { frames := 0, cells := 0, slots := 0, locals := 0 } D [(cI, .int), (cJ, .long), (cZ, .boolean), (cH, .object "TinHouse$House")] [.ref a_this, .int p0] [(a_this, .inr (4, [.ref a_this_house, .ref a_this_ledger, .ref a_this_balances, .ref a_this_pairs, .ref a_this_uneven, .ref a_this_sums, .ref a_this_sets, .ref a_this_steps, .ref a_this_ring])), (a_this_balances, .inl (cJ, 10, .inr (.inl v_this_balances)))] res [(a_this, .inr (4, [.ref a_this_house, .ref a_this_ledger, .ref a_this_balances, .ref a_this_pairs, .ref a_this_uneven, .ref a_this_sums, .ref a_this_sets, .ref a_this_steps, .ref a_this_ring])), (a_this_balances, .inl (cJ, 10, .inr (.inl v_this_balances)))] := by
  unfold F_X4_of at h
  refine ii_metL (own := RX4) (lv0 := [(0, .ref a_this), (1, .int p0)]) (by decide) rfl rfl rfl (Nat.le_of_ble_eq_true rfl) (fun {p e s m args below meth c A Q} hQ => ?_)
  refine ii_iload_n 1 dX4_of_0 rfl ?_
  refine ii_jn h (fun j_1 => [(a_this, .inr (4, [.ref a_this_house, .ref a_this_ledger, .ref a_this_balances, .ref a_this_pairs, .ref a_this_uneven, .ref a_this_sums, .ref a_this_sets, .ref a_this_steps, .ref a_this_ring])), (a_this_balances, .inl (cJ, 10, .inr (.inl v_this_balances)))]) (fun j_1 => []) 23 (fun j_1 => [.long j_1]) (fun j_1 h => ?_) (fun j_1 h hjj_1 => ?_)
  · skip
    cases h
    exact hQ _ _ dX4_of_23
  · skip
    refine ii_if_lt (tgt := 22) h dX4_of_1 (by decide) (fun h => ?_) (fun h => ?_)
    · skip
      refine ii_lconst dX4_of_22 kl0 ?_
      refine ii_lv [] rfl ?_
      cases h
      exact hjj_1
    · skip
      refine ii_iload_n 1 dX4_of_4 rfl ?_
      refine ii_aload_n 0 dX4_of_5 rfl ?_
      refine ii_get (C := RX4) (T := TX4) (N := 9) (ci := 4) izX4 0 rfl rfl 2 (by decide) kX4_9 rfl dX4_of_6 ?_
      refine ii_alen (v := (10 : Int32)) 1 1 rfl rfl rfl dX4_of_9 ?_
      refine ii_icmp_ge (tgt := 22) h dX4_of_10 (by decide) (fun h => ?_) (fun h => ?_)
      · skip
        refine ii_lconst dX4_of_22 kl0 ?_
        refine ii_lv [] rfl ?_
        cases h
        exact hjj_1
      · skip
        refine ii_aload_n 0 dX4_of_13 rfl ?_
        refine ii_get (C := RX4) (T := TX4) (N := 9) (ci := 4) izX4 0 rfl rfl 2 (by decide) kX4_9 rfl dX4_of_14 ?_
        refine ii_iload_n 1 dX4_of_17 rfl ?_
        refine ii_lald h 1 1 rfl rfl dX4_of_18 (fun t_2 h => ?_)
        refine ii_goto (tgt := 23) dX4_of_19 (by decide) ?_
        refine ii_lv [] rfl ?_
        cases h
        exact hjj_1
set_option maxHeartbeats 4000000 in
set_option maxRecDepth 100000 in
theorem c_X4_gatherUneven (l : Launch) (D : va_G) (cI cJ cZ cH : ClassId) (a_this a_this_balances a_this_house a_this_ledger a_this_pairs a_this_ring a_this_sets a_this_steps a_this_sums a_this_uneven : Nat) (v_this_balances : Nat → Int64) (v_this_uneven : Nat → Int64) {res : Int32 × (Nat → Int64)} (h : F_X4_gatherUneven v_this_balances v_this_uneven = some res) : CTi l yX4_gatherUneven wzX4_gatherUneven { frames := 0, cells := 0, slots := 0, locals := 0 } D [(cI, .int), (cJ, .long), (cZ, .boolean), (cH, .object "TinHouse$House")] [.ref a_this] [(a_this, .inr (4, [.ref a_this_house, .ref a_this_ledger, .ref a_this_balances, .ref a_this_pairs, .ref a_this_uneven, .ref a_this_sums, .ref a_this_sets, .ref a_this_steps, .ref a_this_ring])), (a_this_balances, .inl (cJ, 10, .inr (.inl v_this_balances))), (a_this_uneven, .inl (cJ, 10, .inr (.inl v_this_uneven)))] res.1 [(a_this, .inr (4, [.ref a_this_house, .ref a_this_ledger, .ref a_this_balances, .ref a_this_pairs, .ref a_this_uneven, .ref a_this_sums, .ref a_this_sets, .ref a_this_steps, .ref a_this_ring])), (a_this_balances, .inl (cJ, 10, .inr (.inl v_this_balances))), (a_this_uneven, .inl (cJ, 10, .inr (.inl res.2)))] := by
  unfold F_X4_gatherUneven at h
  refine ii_metI (own := RX4) (lv0 := [(0, .ref a_this)]) (by decide) rfl rfl rfl (Nat.le_of_ble_eq_true rfl) (fun {p e s m args below meth c A Q} hQ => ?_)
  refine ii_iconst dX4_gatherUneven_0 kc0 ?_
  refine ii_istore_n (lv' := [(1, .int (0 : Int32)), (0, .ref a_this)]) dX4_gatherUneven_1 rfl (by decide) rfl ?_
  refine ii_iconst dX4_gatherUneven_2 kc0 ?_
  refine ii_istore_n (lv' := [(2, .int (0 : Int32)), (1, .int (0 : Int32)), (0, .ref a_this)]) dX4_gatherUneven_3 rfl (by decide) rfl ?_
  refine ii_lv [2, 1, 0] rfl ?_
  obtain ⟨x_2, hl_1, h⟩ := bnd h
  refine ii_loopX (fun s_1 => [(a_this, .inr (4, [.ref a_this_house, .ref a_this_ledger, .ref a_this_balances, .ref a_this_pairs, .ref a_this_uneven, .ref a_this_sums, .ref a_this_sets, .ref a_this_steps, .ref a_this_ring])), (a_this_balances, .inl (cJ, 10, .inr (.inl v_this_balances))), (a_this_uneven, .inl (cJ, 10, .inr (.inl s_1.2.2)))]) (fun s_1 => [(0, .ref a_this), (1, .int s_1.1), (2, .int s_1.2.1)]) (fun x_2 => [(a_this, .inr (4, [.ref a_this_house, .ref a_this_ledger, .ref a_this_balances, .ref a_this_pairs, .ref a_this_uneven, .ref a_this_sums, .ref a_this_sets, .ref a_this_steps, .ref a_this_ring])), (a_this_balances, .inl (cJ, 10, .inr (.inl v_this_balances))), (a_this_uneven, .inl (cJ, 10, .inr (.inl x_2.2.2)))]) (fun x_2 => [(1, .int x_2.1)]) 54 hl_1 rfl rfl ?_ (fun s_1 o h hb_1 hr_1 hx_1 => ?_)
  · skip
    refine ii_iload_n 0 dX4_gatherUneven_54 rfl ?_
    cases h
    exact hQ _ _ dX4_gatherUneven_55
  · skip
    refine ii_iload_n 2 dX4_gatherUneven_4 rfl ?_
    refine ii_aload_n 0 dX4_gatherUneven_5 rfl ?_
    refine ii_get (C := RX4) (T := TX4) (N := 9) (ci := 4) izX4 0 rfl rfl 2 (by decide) kX4_9 rfl dX4_gatherUneven_6 ?_
    refine ii_alen (v := (10 : Int32)) 1 1 rfl rfl rfl dX4_gatherUneven_9 ?_
    refine ii_icmp_ge (tgt := 54) h dX4_gatherUneven_10 (by decide) (fun h => ?_) (fun h => ?_)
    · skip
      refine ii_lv [1] rfl ?_
      cases h
      exact hx_1 (s_1.1, s_1.2.1, s_1.2.2) (hr_1 _ rfl)
    · skip
      refine ii_aload_n 0 dX4_gatherUneven_13 rfl ?_
      refine ii_get (C := RX4) (T := TX4) (N := 9) (ci := 4) izX4 0 rfl rfl 2 (by decide) kX4_9 rfl dX4_gatherUneven_14 ?_
      refine ii_iload_n 2 dX4_gatherUneven_17 rfl ?_
      refine ii_lald h 1 1 rfl rfl dX4_gatherUneven_18 (fun t_3 h => ?_)
      refine ii_lconst dX4_gatherUneven_19 kl0 ?_
      refine ii_jn h (fun j_4 => [(a_this, .inr (4, [.ref a_this_house, .ref a_this_ledger, .ref a_this_balances, .ref a_this_pairs, .ref a_this_uneven, .ref a_this_sums, .ref a_this_sets, .ref a_this_steps, .ref a_this_ring])), (a_this_balances, .inl (cJ, 10, .inr (.inl v_this_balances))), (a_this_uneven, .inl (cJ, 10, .inr (.inl j_4.2)))]) (fun j_4 => [(0, .ref a_this), (1, .int j_4.1), (2, .int s_1.2.1)]) 48 (fun j_4 => []) (fun j_4 h => ?_) (fun j_4 h hjj_4 => ?_)
      · skip
        refine ii_iinc (fun x_8 => [(2, .int x_8), (0, .ref a_this), (1, .int j_4.1)]) h 2 dX4_gatherUneven_48 rfl kc1 (by decide) (fun _ => rfl) (fun x_8 h => ?_)
        refine ii_goto (tgt := 4) dX4_gatherUneven_51 (by decide) ?_
        refine ii_lv [1, 2, 0] rfl ?_
        cases h
        exact hb_1 (j_4.1, x_8, j_4.2) rfl
      · skip
        refine ii_lcmp_eq (tgt := 48) h dX4_gatherUneven_20 dX4_gatherUneven_21 (by decide) (fun h => ?_) (fun h => ?_)
        · skip
          cases h
          exact hjj_4
        · skip
          refine ii_iload_n 1 dX4_gatherUneven_24 rfl ?_
          refine ii_aload_n 0 dX4_gatherUneven_25 rfl ?_
          refine ii_get (C := RX4) (T := TX4) (N := 9) (ci := 4) izX4 0 rfl rfl 4 (by decide) kX4_18 rfl dX4_gatherUneven_26 ?_
          refine ii_alen (v := (10 : Int32)) 2 1 rfl rfl rfl dX4_gatherUneven_29 ?_
          refine ii_icmp_ge (tgt := 48) h dX4_gatherUneven_30 (by decide) (fun h => ?_) (fun h => ?_)
          · skip
            cases h
            exact hjj_4
          · skip
            refine ii_aload_n 0 dX4_gatherUneven_33 rfl ?_
            refine ii_get (C := RX4) (T := TX4) (N := 9) (ci := 4) izX4 0 rfl rfl 4 (by decide) kX4_18 rfl dX4_gatherUneven_34 ?_
            refine ii_iload_n 1 dX4_gatherUneven_37 rfl ?_
            refine ii_aload_n 0 dX4_gatherUneven_38 rfl ?_
            refine ii_get (C := RX4) (T := TX4) (N := 9) (ci := 4) izX4 0 rfl rfl 2 (by decide) kX4_9 rfl dX4_gatherUneven_39 ?_
            refine ii_iload_n 2 dX4_gatherUneven_42 rfl ?_
            refine ii_lald h 1 1 rfl rfl dX4_gatherUneven_43 (fun t_5 h => ?_)
            refine ii_last (fun g_6 => [(a_this, .inr (4, [.ref a_this_house, .ref a_this_ledger, .ref a_this_balances, .ref a_this_pairs, .ref a_this_uneven, .ref a_this_sums, .ref a_this_sets, .ref a_this_steps, .ref a_this_ring])), (a_this_balances, .inl (cJ, 10, .inr (.inl v_this_balances))), (a_this_uneven, .inl (cJ, 10, .inr (.inl g_6)))]) h 2 1 rfl rfl dX4_gatherUneven_44 (fun _ => rfl) (fun g_6 h => ?_)
            refine ii_iinc (fun x_7 => [(1, .int x_7), (0, .ref a_this), (2, .int s_1.2.1)]) h 1 dX4_gatherUneven_45 rfl kc1 (by decide) (fun _ => rfl) (fun x_7 h => ?_)
            refine ii_lv [1, 0, 2] rfl ?_
            cases h
            exact hjj_4
set_option maxHeartbeats 4000000 in
set_option maxRecDepth 100000 in
theorem c_X4_weighSet (l : Launch) (D : va_G) (cI cJ cZ cH : ClassId) (a_this a_this_balances a_this_house a_this_ledger a_this_pairs a_this_ring a_this_sets a_this_steps a_this_sums a_this_uneven : Nat) (v_this_sets : Nat → Int32) (v_this_sums : Nat → Int64) (v_this_uneven : Nat → Int64) (p0 : Int32) (p1 : Int32) {res : (Nat → Int32) × (Nat → Int64)} (h : F_X4_weighSet v_this_sets v_this_sums v_this_uneven p0 p1 = some res) : CTv l yX4_weighSet wzX4_weighSet { frames := 1, cells := 0, slots := 0, locals := 24 } D [(cI, .int), (cJ, .long), (cZ, .boolean), (cH, .object "TinHouse$House")] [.ref a_this, .int p0, .int p1] [(a_this, .inr (4, [.ref a_this_house, .ref a_this_ledger, .ref a_this_balances, .ref a_this_pairs, .ref a_this_uneven, .ref a_this_sums, .ref a_this_sets, .ref a_this_steps, .ref a_this_ring])), (a_this_sets, .inl (cI, 1024, .inl v_this_sets)), (a_this_sums, .inl (cJ, 1024, .inr (.inl v_this_sums))), (a_this_uneven, .inl (cJ, 10, .inr (.inl v_this_uneven)))] [(a_this, .inr (4, [.ref a_this_house, .ref a_this_ledger, .ref a_this_balances, .ref a_this_pairs, .ref a_this_uneven, .ref a_this_sums, .ref a_this_sets, .ref a_this_steps, .ref a_this_ring])), (a_this_sets, .inl (cI, 1024, .inl res.1)), (a_this_sums, .inl (cJ, 1024, .inr (.inl res.2))), (a_this_uneven, .inl (cJ, 10, .inr (.inl v_this_uneven)))] := by
  unfold F_X4_weighSet at h
  refine ii_metV (own := RX4) (lv0 := [(0, .ref a_this), (1, .int p0), (2, .int p1)]) (by decide) rfl rfl rfl (Nat.le_of_ble_eq_true rfl) (fun {p e s m args below meth c A Q} hQ => ?_)
  refine ii_iload_n 1 dX4_weighSet_0 rfl ?_
  refine ii_if_lt (tgt := 22) h dX4_weighSet_1 (by decide) (fun h => ?_) (fun h => ?_)
  · skip
    cases h
    exact hQ _ _ dX4_weighSet_22
  · skip
    refine ii_iload_n 1 dX4_weighSet_4 rfl ?_
    refine ii_aload_n 0 dX4_weighSet_5 rfl ?_
    refine ii_get (C := RX4) (T := TX4) (N := 9) (ci := 4) izX4 0 rfl rfl 5 (by decide) kX4_21 rfl dX4_weighSet_6 ?_
    refine ii_alen (v := (1024 : Int32)) 2 1 rfl rfl rfl dX4_weighSet_9 ?_
    refine ii_icmp_ge (tgt := 22) h dX4_weighSet_10 (by decide) (fun h => ?_) (fun h => ?_)
    · skip
      cases h
      exact hQ _ _ dX4_weighSet_22
    · skip
      refine ii_iload_n 1 dX4_weighSet_13 rfl ?_
      refine ii_aload_n 0 dX4_weighSet_14 rfl ?_
      refine ii_get (C := RX4) (T := TX4) (N := 9) (ci := 4) izX4 0 rfl rfl 6 (by decide) kX4_24 rfl dX4_weighSet_15 ?_
      refine ii_alen (v := (1024 : Int32)) 1 0 rfl rfl rfl dX4_weighSet_18 ?_
      refine ii_icmp_lt (tgt := 23) h dX4_weighSet_19 (by decide) (fun h => ?_) (fun h => ?_)
      · skip
        refine ii_iconst dX4_weighSet_23 kc0 ?_
        refine ii_istore_n (lv' := [(3, .int (0 : Int32)), (0, .ref a_this), (1, .int p0), (2, .int p1)]) dX4_weighSet_24 rfl (by decide) rfl ?_
        refine ii_iconst dX4_weighSet_25 kc0 ?_
        refine ii_istore (lv' := [(4, .int (0 : Int32)), (3, .int (0 : Int32)), (0, .ref a_this), (1, .int p0), (2, .int p1)]) dX4_weighSet_26 (by decide) rfl ?_
        refine ii_lv [2, 3, 4, 1, 0] rfl ?_
        obtain ⟨x_2, hl_1, h⟩ := bnd h
        refine ii_loopX (fun s_1 => [(a_this, .inr (4, [.ref a_this_house, .ref a_this_ledger, .ref a_this_balances, .ref a_this_pairs, .ref a_this_uneven, .ref a_this_sums, .ref a_this_sets, .ref a_this_steps, .ref a_this_ring])), (a_this_sets, .inl (cI, 1024, .inl v_this_sets)), (a_this_sums, .inl (cJ, 1024, .inr (.inl s_1.2.2))), (a_this_uneven, .inl (cJ, 10, .inr (.inl v_this_uneven)))]) (fun s_1 => [(0, .ref a_this), (1, .int p0), (2, .int p1), (3, .int s_1.1), (4, .int s_1.2.1)]) (fun x_2 => [(a_this, .inr (4, [.ref a_this_house, .ref a_this_ledger, .ref a_this_balances, .ref a_this_pairs, .ref a_this_uneven, .ref a_this_sums, .ref a_this_sets, .ref a_this_steps, .ref a_this_ring])), (a_this_sets, .inl (cI, 1024, .inl v_this_sets)), (a_this_sums, .inl (cJ, 1024, .inr (.inl x_2.2.2))), (a_this_uneven, .inl (cJ, 10, .inr (.inl v_this_uneven)))]) (fun x_2 => [(0, .ref a_this), (1, .int p0), (3, .int x_2.1)]) 104 hl_1 rfl rfl ?_ (fun s_1 o h hb_1 hr_1 hx_1 => ?_)
        · skip
          refine ii_aload_n 0 dX4_weighSet_104 rfl ?_
          refine ii_get (C := RX4) (T := TX4) (N := 9) (ci := 4) izX4 0 rfl rfl 6 (by decide) kX4_24 rfl dX4_weighSet_105 ?_
          refine ii_iload_n 1 dX4_weighSet_108 rfl ?_
          refine ii_iload_n 2 dX4_weighSet_109 rfl ?_
          refine ii_aload_n 0 dX4_weighSet_110 rfl ?_
          refine ii_get (C := RX4) (T := TX4) (N := 9) (ci := 4) izX4 0 rfl rfl 5 (by decide) kX4_21 rfl dX4_weighSet_111 ?_
          refine ii_iload_n 1 dX4_weighSet_114 rfl ?_
          refine ii_lald h 2 1 rfl rfl dX4_weighSet_115 (fun t_11 h => ?_)
          refine ii_lconst dX4_weighSet_116 kl0 ?_
          refine ii_jn h (fun j_12 => [(a_this, .inr (4, [.ref a_this_house, .ref a_this_ledger, .ref a_this_balances, .ref a_this_pairs, .ref a_this_uneven, .ref a_this_sums, .ref a_this_sets, .ref a_this_steps, .ref a_this_ring])), (a_this_sets, .inl (cI, 1024, .inl v_this_sets)), (a_this_sums, .inl (cJ, 1024, .inr (.inl x_2.2.2))), (a_this_uneven, .inl (cJ, 10, .inr (.inl v_this_uneven)))]) (fun j_12 => []) 126 (fun j_12 => [.int j_12, .int x_2.1, .int p0, .ref a_this_sets]) (fun j_12 h => ?_) (fun j_12 h hjj_12 => ?_)
          · skip
            refine ii_iadd dX4_weighSet_126 ?_
            refine ii_iast (fun g_13 => [(a_this, .inr (4, [.ref a_this_house, .ref a_this_ledger, .ref a_this_balances, .ref a_this_pairs, .ref a_this_uneven, .ref a_this_sums, .ref a_this_sets, .ref a_this_steps, .ref a_this_ring])), (a_this_sets, .inl (cI, 1024, .inl g_13)), (a_this_sums, .inl (cJ, 1024, .inr (.inl x_2.2.2))), (a_this_uneven, .inl (cJ, 10, .inr (.inl v_this_uneven)))]) h 1 0 rfl rfl dX4_weighSet_127 (fun _ => rfl) (fun g_13 h => ?_)
            cases h
            exact hQ _ _ dX4_weighSet_128
          · skip
            refine ii_lcmp_ne (tgt := 125) h dX4_weighSet_117 dX4_weighSet_118 (by decide) (fun h => ?_) (fun h => ?_)
            · skip
              refine ii_iconst dX4_weighSet_125 kc0 ?_
              refine ii_lv [] rfl ?_
              cases h
              exact hjj_12
            · skip
              refine ii_iconst dX4_weighSet_121 kc1 ?_
              refine ii_goto (tgt := 126) dX4_weighSet_122 (by decide) ?_
              refine ii_lv [] rfl ?_
              cases h
              exact hjj_12
        · skip
          refine ii_iload 4 dX4_weighSet_28 rfl ?_
          refine ii_iload_n 2 dX4_weighSet_30 rfl ?_
          refine ii_icmp_ge (tgt := 104) h dX4_weighSet_31 (by decide) (fun h => ?_) (fun h => ?_)
          · skip
            refine ii_lv [0, 1, 3] rfl ?_
            cases h
            exact hx_1 (s_1.1, s_1.2.1, s_1.2.2) (hr_1 _ rfl)
          · skip
            refine ii_iload 4 dX4_weighSet_34 rfl ?_
            refine ii_aload_n 0 dX4_weighSet_36 rfl ?_
            refine ii_get (C := RX4) (T := TX4) (N := 9) (ci := 4) izX4 0 rfl rfl 4 (by decide) kX4_18 rfl dX4_weighSet_37 ?_
            refine ii_alen (v := (10 : Int32)) 3 1 rfl rfl rfl dX4_weighSet_40 ?_
            refine ii_icmp_ge (tgt := 104) h dX4_weighSet_41 (by decide) (fun h => ?_) (fun h => ?_)
            · skip
              refine ii_lv [0, 1, 3] rfl ?_
              cases h
              exact hx_1 (s_1.1, s_1.2.1, s_1.2.2) (hr_1 _ rfl)
            · skip
              refine ii_iload_n 1 dX4_weighSet_44 rfl ?_
              refine ii_iconst dX4_weighSet_45 kc1 ?_
              refine ii_iload 4 dX4_weighSet_46 rfl ?_
              refine ii_ishl dX4_weighSet_48 ?_
              refine ii_iconst dX4_weighSet_49 kcm1 ?_
              refine ii_ixor dX4_weighSet_50 ?_
              refine ii_iand dX4_weighSet_51 ?_
              refine ii_topI h (fun x_3 h => ?_)
              refine ii_istore (lv' := [(5, .int x_3), (0, .ref a_this), (1, .int p0), (2, .int p1), (3, .int s_1.1), (4, .int s_1.2.1)]) dX4_weighSet_52 (by decide) rfl ?_
              refine ii_iload 0 dX4_weighSet_54 rfl ?_
              refine ii_jn h (fun j_4 => [(a_this, .inr (4, [.ref a_this_house, .ref a_this_ledger, .ref a_this_balances, .ref a_this_pairs, .ref a_this_uneven, .ref a_this_sums, .ref a_this_sets, .ref a_this_steps, .ref a_this_ring])), (a_this_sets, .inl (cI, 1024, .inl v_this_sets)), (a_this_sums, .inl (cJ, 1024, .inr (.inl j_4.2))), (a_this_uneven, .inl (cJ, 10, .inr (.inl v_this_uneven)))]) (fun j_4 => [(0, .ref a_this), (1, .int p0), (2, .int p1), (3, .int j_4.1), (4, .int s_1.2.1)]) 98 (fun j_4 => []) (fun j_4 h => ?_) (fun j_4 h hjj_4 => ?_)
              · skip
                refine ii_iinc (fun x_10 => [(4, .int x_10), (0, .ref a_this), (1, .int p0), (2, .int p1), (3, .int j_4.1)]) h 4 dX4_weighSet_98 rfl kc1 (by decide) (fun _ => rfl) (fun x_10 h => ?_)
                refine ii_goto (tgt := 28) dX4_weighSet_101 (by decide) ?_
                refine ii_lv [1, 2, 3, 4, 0] rfl ?_
                cases h
                exact hb_1 (j_4.1, x_10, j_4.2) rfl
              · skip
                refine ii_if_lt (tgt := 98) h dX4_weighSet_56 (by decide) (fun h => ?_) (fun h => ?_)
                · skip
                  refine ii_lv [1, 2, 3, 4, 5] rfl ?_
                  cases h
                  exact hjj_4
                · skip
                  refine ii_iload 0 dX4_weighSet_59 rfl ?_
                  refine ii_iload_n 2 dX4_weighSet_61 rfl ?_
                  refine ii_icmp_ge (tgt := 98) h dX4_weighSet_62 (by decide) (fun h => ?_) (fun h => ?_)
                  · skip
                    refine ii_lv [1, 2, 3, 4, 5] rfl ?_
                    cases h
                    exact hjj_4
                  · skip
                    refine ii_aload_n 1 dX4_weighSet_65 rfl ?_
                    refine ii_get (C := RX4) (T := TX4) (N := 9) (ci := 4) izX4 0 rfl rfl 5 (by decide) kX4_21 rfl dX4_weighSet_66 ?_
                    refine ii_iload_n 2 dX4_weighSet_69 rfl ?_
                    refine ii_aload_n 1 dX4_weighSet_70 rfl ?_
                    refine ii_get (C := RX4) (T := TX4) (N := 9) (ci := 4) izX4 0 rfl rfl 5 (by decide) kX4_21 rfl dX4_weighSet_71 ?_
                    refine ii_iload 0 dX4_weighSet_74 rfl ?_
                    refine ii_lald h 2 1 rfl rfl dX4_weighSet_76 (fun t_5 h => ?_)
                    refine ii_aload_n 1 dX4_weighSet_77 rfl ?_
                    refine ii_get (C := RX4) (T := TX4) (N := 9) (ci := 4) izX4 0 rfl rfl 4 (by decide) kX4_18 rfl dX4_weighSet_78 ?_
                    refine ii_iload 5 dX4_weighSet_81 rfl ?_
                    refine ii_lald h 3 1 rfl rfl dX4_weighSet_83 (fun t_6 h => ?_)
                    refine ii_ladd dX4_weighSet_84 ?_
                    refine ii_last (fun g_7 => [(a_this, .inr (4, [.ref a_this_house, .ref a_this_ledger, .ref a_this_balances, .ref a_this_pairs, .ref a_this_uneven, .ref a_this_sums, .ref a_this_sets, .ref a_this_steps, .ref a_this_ring])), (a_this_sets, .inl (cI, 1024, .inl v_this_sets)), (a_this_sums, .inl (cJ, 1024, .inr (.inl g_7))), (a_this_uneven, .inl (cJ, 10, .inr (.inl v_this_uneven)))]) h 2 1 rfl rfl dX4_weighSet_85 (fun _ => rfl) (fun g_7 h => ?_)
                    refine ii_iload_n 4 dX4_weighSet_86 rfl ?_
                    refine ii_aload_n 1 dX4_weighSet_87 rfl ?_
                    refine ii_get (C := RX4) (T := TX4) (N := 9) (ci := 4) izX4 0 rfl rfl 6 (by decide) kX4_24 rfl dX4_weighSet_88 ?_
                    refine ii_iload 0 dX4_weighSet_91 rfl ?_
                    refine ii_iald h 1 0 rfl rfl dX4_weighSet_93 (fun t_8 h => ?_)
                    refine ii_mmax mX4_85 ms_max mi_Math mc_max (Nat.le_of_ble_eq_true rfl) (Nat.le_of_ble_eq_true rfl) (Nat.le_refl _) (Nat.le_refl _) dX4_weighSet_94 ?_
                    refine ii_topI h (fun x_9 h => ?_)
                    refine ii_istore_n (lv' := [(3, .int x_9), (5, .int x_3), (0, .ref a_this), (1, .int p0), (2, .int p1), (4, .int s_1.2.1)]) dX4_weighSet_97 rfl (by decide) rfl ?_
                    refine ii_lv [2, 3, 4, 0, 5] rfl ?_
                    cases h
                    exact hjj_4
      · skip
        cases h
        exact hQ _ _ dX4_weighSet_22
set_option maxHeartbeats 4000000 in
set_option maxRecDepth 100000 in
theorem c_X4_fewestPayments (l : Launch) (D : va_G) (cI cJ cZ cH : ClassId) (a_this a_this_balances a_this_house a_this_ledger a_this_pairs a_this_ring a_this_sets a_this_steps a_this_sums a_this_uneven : Nat) (v_this_balances : Nat → Int64) (v_this_sets : Nat → Int32) (v_this_sums : Nat → Int64) (v_this_uneven : Nat → Int64) {res : Int32 × (Nat → Int32) × (Nat → Int64) × (Nat → Int64)} (h : F_X4_fewestPayments v_this_balances v_this_sets v_this_sums v_this_uneven = some res) : CTi l yX4_fewestPayments wzX4_fewestPayments { frames := 2, cells := 0, slots := 0, locals := 49 } D [(cI, .int), (cJ, .long), (cZ, .boolean), (cH, .object "TinHouse$House")] [.ref a_this] [(a_this, .inr (4, [.ref a_this_house, .ref a_this_ledger, .ref a_this_balances, .ref a_this_pairs, .ref a_this_uneven, .ref a_this_sums, .ref a_this_sets, .ref a_this_steps, .ref a_this_ring])), (a_this_balances, .inl (cJ, 10, .inr (.inl v_this_balances))), (a_this_sets, .inl (cI, 1024, .inl v_this_sets)), (a_this_sums, .inl (cJ, 1024, .inr (.inl v_this_sums))), (a_this_uneven, .inl (cJ, 10, .inr (.inl v_this_uneven)))] res.1 [(a_this, .inr (4, [.ref a_this_house, .ref a_this_ledger, .ref a_this_balances, .ref a_this_pairs, .ref a_this_uneven, .ref a_this_sums, .ref a_this_sets, .ref a_this_steps, .ref a_this_ring])), (a_this_balances, .inl (cJ, 10, .inr (.inl v_this_balances))), (a_this_sets, .inl (cI, 1024, .inl res.2.1)), (a_this_sums, .inl (cJ, 1024, .inr (.inl res.2.2.1))), (a_this_uneven, .inl (cJ, 10, .inr (.inl res.2.2.2)))] := by
  unfold F_X4_fewestPayments at h
  refine ii_metI (own := RX4) (lv0 := [(0, .ref a_this)]) (by decide) rfl rfl rfl (Nat.le_of_ble_eq_true rfl) (fun {p e s m args below meth c A Q} hQ => ?_)
  refine ii_aload_n 0 dX4_fewestPayments_0 rfl ?_
  obtain ⟨c_1, hc_1, h⟩ := bnd h
  refine ii_callVi (As := []) (ws' := [(a_this, .inr (4, [.ref a_this_house, .ref a_this_ledger, .ref a_this_balances, .ref a_this_pairs, .ref a_this_uneven, .ref a_this_sums, .ref a_this_sets, .ref a_this_steps, .ref a_this_ring])), (a_this_balances, .inl (cJ, 10, .inr (.inl v_this_balances))), (a_this_sets, .inl (cI, 1024, .inl v_this_sets)), (a_this_sums, .inl (cJ, 1024, .inr (.inl v_this_sums))), (a_this_uneven, .inl (cJ, 10, .inr (.inl c_1.2)))]) (st := []) (c_X4_gatherUneven l D cI cJ cZ cH a_this a_this_balances a_this_house a_this_ledger a_this_pairs a_this_ring a_this_sets a_this_steps a_this_sums a_this_uneven v_this_balances v_this_uneven hc_1) gzX4_77 rfl rfl rfl eV_X4_gatherUneven ⟨Nat.le_of_ble_eq_true rfl, Nat.le_of_ble_eq_true rfl⟩ rfl 0 rfl rfl [0, 1, 4] rfl rfl rfl rfl rfl (Nat.le_of_ble_eq_true rfl) (Nat.le_refl _) (Nat.le_refl _) rfl dX4_fewestPayments_1 ?_
  refine ii_istore_n (lv' := [(1, .int c_1.1), (0, .ref a_this)]) dX4_fewestPayments_4 rfl (by decide) rfl ?_
  refine ii_iconst dX4_fewestPayments_5 kc1 ?_
  refine ii_iload_n 0 dX4_fewestPayments_6 rfl ?_
  refine ii_ishl dX4_fewestPayments_7 ?_
  refine ii_iconst dX4_fewestPayments_8 kc1 ?_
  refine ii_isub dX4_fewestPayments_9 ?_
  refine ii_topI h (fun x_2 h => ?_)
  refine ii_istore_n (lv' := [(2, .int x_2), (1, .int c_1.1), (0, .ref a_this)]) dX4_fewestPayments_10 rfl (by decide) rfl ?_
  refine ii_iconst dX4_fewestPayments_11 kc1 ?_
  refine ii_istore_n (lv' := [(3, .int (1 : Int32)), (2, .int x_2), (1, .int c_1.1), (0, .ref a_this)]) dX4_fewestPayments_12 rfl (by decide) rfl ?_
  refine ii_lv [3, 2, 1, 0] rfl ?_
  obtain ⟨x_4, hl_3, h⟩ := bnd h
  refine ii_loopX (fun s_3 => [(a_this, .inr (4, [.ref a_this_house, .ref a_this_ledger, .ref a_this_balances, .ref a_this_pairs, .ref a_this_uneven, .ref a_this_sums, .ref a_this_sets, .ref a_this_steps, .ref a_this_ring])), (a_this_balances, .inl (cJ, 10, .inr (.inl v_this_balances))), (a_this_sets, .inl (cI, 1024, .inl s_3.2.1)), (a_this_sums, .inl (cJ, 1024, .inr (.inl s_3.2.2))), (a_this_uneven, .inl (cJ, 10, .inr (.inl c_1.2)))]) (fun s_3 => [(0, .ref a_this), (1, .int c_1.1), (2, .int x_2), (3, .int s_3.1)]) (fun x_4 => [(a_this, .inr (4, [.ref a_this_house, .ref a_this_ledger, .ref a_this_balances, .ref a_this_pairs, .ref a_this_uneven, .ref a_this_sums, .ref a_this_sets, .ref a_this_steps, .ref a_this_ring])), (a_this_balances, .inl (cJ, 10, .inr (.inl v_this_balances))), (a_this_sets, .inl (cI, 1024, .inl x_4.2.1)), (a_this_sums, .inl (cJ, 1024, .inr (.inl x_4.2.2))), (a_this_uneven, .inl (cJ, 10, .inr (.inl c_1.2)))]) (fun x_4 => [(0, .ref a_this), (1, .int c_1.1), (2, .int x_2)]) 30 hl_3 rfl rfl ?_ (fun s_3 o h hb_3 hr_3 hx_3 => ?_)
  · skip
    refine ii_iload_n 2 dX4_fewestPayments_30 rfl ?_
    refine ii_jn h (fun j_7 => [(a_this, .inr (4, [.ref a_this_house, .ref a_this_ledger, .ref a_this_balances, .ref a_this_pairs, .ref a_this_uneven, .ref a_this_sums, .ref a_this_sets, .ref a_this_steps, .ref a_this_ring])), (a_this_balances, .inl (cJ, 10, .inr (.inl v_this_balances))), (a_this_sets, .inl (cI, 1024, .inl x_4.2.1)), (a_this_sums, .inl (cJ, 1024, .inr (.inl x_4.2.2))), (a_this_uneven, .inl (cJ, 10, .inr (.inl c_1.2)))]) (fun j_7 => []) 55 (fun j_7 => [.int j_7]) (fun j_7 h => ?_) (fun j_7 h hjj_7 => ?_)
    · skip
      cases h
      exact hQ _ _ dX4_fewestPayments_55
    · skip
      refine ii_if_lt (tgt := 54) h dX4_fewestPayments_31 (by decide) (fun h => ?_) (fun h => ?_)
      · skip
        refine ii_iconst dX4_fewestPayments_54 kc0 ?_
        refine ii_lv [] rfl ?_
        cases h
        exact hjj_7
      · skip
        refine ii_iload_n 2 dX4_fewestPayments_34 rfl ?_
        refine ii_aload_n 0 dX4_fewestPayments_35 rfl ?_
        refine ii_get (C := RX4) (T := TX4) (N := 9) (ci := 4) izX4 0 rfl rfl 6 (by decide) kX4_24 rfl dX4_fewestPayments_36 ?_
        refine ii_alen (v := (1024 : Int32)) 2 0 rfl rfl rfl dX4_fewestPayments_39 ?_
        refine ii_icmp_ge (tgt := 54) h dX4_fewestPayments_40 (by decide) (fun h => ?_) (fun h => ?_)
        · skip
          refine ii_iconst dX4_fewestPayments_54 kc0 ?_
          refine ii_lv [] rfl ?_
          cases h
          exact hjj_7
        · skip
          refine ii_iload_n 1 dX4_fewestPayments_43 rfl ?_
          refine ii_aload_n 0 dX4_fewestPayments_44 rfl ?_
          refine ii_get (C := RX4) (T := TX4) (N := 9) (ci := 4) izX4 0 rfl rfl 6 (by decide) kX4_24 rfl dX4_fewestPayments_45 ?_
          refine ii_iload_n 2 dX4_fewestPayments_48 rfl ?_
          refine ii_iald h 2 0 rfl rfl dX4_fewestPayments_49 (fun t_8 h => ?_)
          refine ii_isub dX4_fewestPayments_50 ?_
          refine ii_goto (tgt := 55) dX4_fewestPayments_51 (by decide) ?_
          refine ii_lv [] rfl ?_
          cases h
          exact hjj_7
  · skip
    refine ii_iload_n 3 dX4_fewestPayments_13 rfl ?_
    refine ii_iload_n 2 dX4_fewestPayments_14 rfl ?_
    refine ii_icmp_gt (tgt := 30) h dX4_fewestPayments_15 (by decide) (fun h => ?_) (fun h => ?_)
    · skip
      refine ii_lv [0, 1, 2] rfl ?_
      cases h
      exact hx_3 (s_3.1, s_3.2.1, s_3.2.2) (hr_3 _ rfl)
    · skip
      refine ii_aload_n 0 dX4_fewestPayments_18 rfl ?_
      refine ii_iload_n 3 dX4_fewestPayments_19 rfl ?_
      refine ii_iload_n 1 dX4_fewestPayments_20 rfl ?_
      obtain ⟨c_5, hc_5, h⟩ := bnd h
      refine ii_callVv (As := [.int s_3.1, .int c_1.1]) (ws' := [(a_this, .inr (4, [.ref a_this_house, .ref a_this_ledger, .ref a_this_balances, .ref a_this_pairs, .ref a_this_uneven, .ref a_this_sums, .ref a_this_sets, .ref a_this_steps, .ref a_this_ring])), (a_this_balances, .inl (cJ, 10, .inr (.inl v_this_balances))), (a_this_sets, .inl (cI, 1024, .inl c_5.1)), (a_this_sums, .inl (cJ, 1024, .inr (.inl c_5.2))), (a_this_uneven, .inl (cJ, 10, .inr (.inl c_1.2)))]) (st := []) (c_X4_weighSet l D cI cJ cZ cH a_this a_this_balances a_this_house a_this_ledger a_this_pairs a_this_ring a_this_sets a_this_steps a_this_sums a_this_uneven s_3.2.1 s_3.2.2 c_1.2 s_3.1 c_1.1 hc_5) gzX4_81 rfl rfl rfl eV_X4_weighSet ⟨Nat.le_of_ble_eq_true rfl, Nat.le_of_ble_eq_true rfl⟩ rfl 0 rfl rfl [0, 2, 3, 4] rfl rfl rfl rfl rfl (Nat.le_of_ble_eq_true rfl) (Nat.le_refl _) (Nat.le_refl _) rfl dX4_fewestPayments_21 ?_
      refine ii_iinc (fun x_6 => [(3, .int x_6), (0, .ref a_this), (1, .int c_1.1), (2, .int x_2)]) h 3 dX4_fewestPayments_24 rfl kc1 (by decide) (fun _ => rfl) (fun x_6 h => ?_)
      refine ii_goto (tgt := 13) dX4_fewestPayments_27 (by decide) ?_
      refine ii_lv [1, 2, 3, 0] rfl ?_
      cases h
      exact hb_3 (x_6, c_5.1, c_5.2) rfl
set_option maxHeartbeats 4000000 in
set_option maxRecDepth 100000 in
theorem c_X4_isNear (l : Launch) (D : va_G) (cI cJ cZ cH : ClassId) (a_this a_this_balances a_this_house a_this_ledger a_this_pairs a_this_ring a_this_sets a_this_steps a_this_sums a_this_uneven : Nat) (v_this_pairs : Nat → Int64) (v_this_steps : Nat → Int32) (p0 : Int32) (p1 : Int32) (p2 : Int32) {res : Int32} (h : F_X4_isNear v_this_pairs v_this_steps p0 p1 p2 = some res) : CTi l yX4_isNear wzX4_isNear { frames := 2, cells := 0, slots := 0, locals := 45 } D [(cI, .int), (cJ, .long), (cZ, .boolean), (cH, .object "TinHouse$House")] [.ref a_this, .int p0, .int p1, .int p2] [(a_this, .inr (4, [.ref a_this_house, .ref a_this_ledger, .ref a_this_balances, .ref a_this_pairs, .ref a_this_uneven, .ref a_this_sums, .ref a_this_sets, .ref a_this_steps, .ref a_this_ring])), (a_this_pairs, .inl (cJ, 100, .inr (.inl v_this_pairs))), (a_this_steps, .inl (cI, 10, .inl v_this_steps))] res [(a_this, .inr (4, [.ref a_this_house, .ref a_this_ledger, .ref a_this_balances, .ref a_this_pairs, .ref a_this_uneven, .ref a_this_sums, .ref a_this_sets, .ref a_this_steps, .ref a_this_ring])), (a_this_pairs, .inl (cJ, 100, .inr (.inl v_this_pairs))), (a_this_steps, .inl (cI, 10, .inl v_this_steps))] := by
  unfold F_X4_isNear at h
  refine ii_metZ (own := RX4) (lv0 := [(0, .ref a_this), (1, .int p0), (2, .int p1), (3, .int p2)]) (by decide) rfl rfl rfl (Nat.le_of_ble_eq_true rfl) (fun {p e s m args below meth c A Q} hQ => ?_)
  refine ii_iload_n 3 dX4_isNear_0 rfl ?_
  refine ii_iconst dX4_isNear_1 kc1 ?_
  refine ii_icmp_ne (tgt := 12) h dX4_isNear_2 (by decide) (fun h => ?_) (fun h => ?_)
  · skip
    refine ii_iload_n 2 dX4_isNear_12 rfl ?_
    refine ii_iconst dX4_isNear_13 kc1 ?_
    refine ii_iadd dX4_isNear_14 ?_
    refine ii_topI h (fun x_1 h => ?_)
    refine ii_istore (lv' := [(4, .int x_1), (0, .ref a_this), (1, .int p0), (2, .int p1), (3, .int p2)]) dX4_isNear_15 (by decide) rfl ?_
    refine ii_lv [1, 2, 4, 0] rfl ?_
    obtain ⟨x_3, hl_2, ha_2⟩ := bnd h
    refine ii_loopR (fun s_2 => [(a_this, .inr (4, [.ref a_this_house, .ref a_this_ledger, .ref a_this_balances, .ref a_this_pairs, .ref a_this_uneven, .ref a_this_sums, .ref a_this_sets, .ref a_this_steps, .ref a_this_ring])), (a_this_pairs, .inl (cJ, 100, .inr (.inl v_this_pairs))), (a_this_steps, .inl (cI, 10, .inl v_this_steps))]) (fun s_2 => [(0, .ref a_this), (1, .int p0), (3, .int p2), (4, .int s_2)]) (fun y_4 => [(a_this, .inr (4, [.ref a_this_house, .ref a_this_ledger, .ref a_this_balances, .ref a_this_pairs, .ref a_this_uneven, .ref a_this_sums, .ref a_this_sets, .ref a_this_steps, .ref a_this_ring])), (a_this_pairs, .inl (cJ, 100, .inr (.inl v_this_pairs))), (a_this_steps, .inl (cI, 10, .inl v_this_steps))]) (fun y_4 => []) 63 hl_2 rfl rfl (fun y_4 hy => ?_) (fun s_2 o h hb_2 hr_2 hx_2 => ?_)
    · skip
      subst hy
      have h := sm_l ha_2
      refine ii_iconst dX4_isNear_63 kc0 ?_
      cases h
      exact hQ _ _ dX4_isNear_64 (Or.inl rfl)
    · skip
      refine ii_iload 3 dX4_isNear_17 rfl ?_
      refine ii_aload_n 0 dX4_isNear_19 rfl ?_
      refine ii_get (C := RX4) (T := TX4) (N := 9) (ci := 4) izX4 0 rfl rfl 7 (by decide) kX4_28 rfl dX4_isNear_20 ?_
      refine ii_alen (v := (10 : Int32)) 2 0 rfl rfl rfl dX4_isNear_23 ?_
      refine ii_icmp_ge (tgt := 63) h dX4_isNear_24 (by decide) (fun h => ?_) (fun h => ?_)
      · skip
        refine ii_lv [] rfl ?_
        cases h
        exact hx_2 s_2 (hr_2 _ rfl)
      · skip
        refine ii_iload 3 dX4_isNear_27 rfl ?_
        refine ii_if_lt (tgt := 57) h dX4_isNear_29 (by decide) (fun h => ?_) (fun h => ?_)
        · skip
          refine ii_iinc (fun x_5 => [(4, .int x_5), (0, .ref a_this), (1, .int p0), (3, .int p2)]) h 3 dX4_isNear_57 rfl kc1 (by decide) (fun _ => rfl) (fun x_5 h => ?_)
          refine ii_goto (tgt := 17) dX4_isNear_60 (by decide) ?_
          refine ii_lv [1, 2, 3, 0] rfl ?_
          cases h
          exact hb_2 x_5 rfl
        · skip
          refine ii_aload_n 0 dX4_isNear_32 rfl ?_
          refine ii_get (C := RX4) (T := TX4) (N := 9) (ci := 4) izX4 0 rfl rfl 7 (by decide) kX4_28 rfl dX4_isNear_33 ?_
          refine ii_iload 3 dX4_isNear_36 rfl ?_
          refine ii_iald h 2 0 rfl rfl dX4_isNear_38 (fun t_6 h => ?_)
          refine ii_iload_n 2 dX4_isNear_39 rfl ?_
          refine ii_iconst dX4_isNear_40 kc1 ?_
          refine ii_isub dX4_isNear_41 ?_
          refine ii_icmp_ne (tgt := 57) h dX4_isNear_42 (by decide) (fun h => ?_) (fun h => ?_)
          · skip
            refine ii_iinc (fun x_7 => [(4, .int x_7), (0, .ref a_this), (1, .int p0), (3, .int p2)]) h 3 dX4_isNear_57 rfl kc1 (by decide) (fun _ => rfl) (fun x_7 h => ?_)
            refine ii_goto (tgt := 17) dX4_isNear_60 (by decide) ?_
            refine ii_lv [1, 2, 3, 0] rfl ?_
            cases h
            exact hb_2 x_7 rfl
          · skip
            refine ii_aload_n 0 dX4_isNear_45 rfl ?_
            refine ii_iload_n 1 dX4_isNear_46 rfl ?_
            refine ii_iload 3 dX4_isNear_47 rfl ?_
            obtain ⟨c_8, hc_8, h⟩ := bnd h
            refine ii_callVi (As := [.int p0, .int s_2]) (ws' := [(a_this, .inr (4, [.ref a_this_house, .ref a_this_ledger, .ref a_this_balances, .ref a_this_pairs, .ref a_this_uneven, .ref a_this_sums, .ref a_this_sets, .ref a_this_steps, .ref a_this_ring])), (a_this_pairs, .inl (cJ, 100, .inr (.inl v_this_pairs))), (a_this_steps, .inl (cI, 10, .inl v_this_steps))]) (st := []) (c_X4_isOwing l D cI cJ cZ cH a_this a_this_balances a_this_house a_this_ledger a_this_pairs a_this_ring a_this_sets a_this_steps a_this_sums a_this_uneven v_this_pairs p0 s_2 hc_8) gzX4_107 rfl rfl rfl eV_X4_isOwing ⟨Nat.le_of_ble_eq_true rfl, Nat.le_of_ble_eq_true rfl⟩ rfl 0 rfl rfl [0, 1] rfl rfl rfl rfl rfl (Nat.le_of_ble_eq_true rfl) (Nat.le_refl _) (Nat.le_refl _) rfl dX4_isNear_49 ?_
            refine ii_if_eq (tgt := 57) h dX4_isNear_52 (by decide) (fun h => ?_) (fun h => ?_)
            · skip
              refine ii_iinc (fun x_9 => [(4, .int x_9), (0, .ref a_this), (1, .int p0), (3, .int p2)]) h 3 dX4_isNear_57 rfl kc1 (by decide) (fun _ => rfl) (fun x_9 h => ?_)
              refine ii_goto (tgt := 17) dX4_isNear_60 (by decide) ?_
              refine ii_lv [1, 2, 3, 0] rfl ?_
              cases h
              exact hb_2 x_9 rfl
            · skip
              refine ii_iconst dX4_isNear_55 kc1 ?_
              cases h
              cases hr_2 _ rfl
              have h := sm_r ha_2
              cases h
              exact hQ _ _ dX4_isNear_56 (Or.inr rfl)
  · skip
    refine ii_aload_n 0 dX4_isNear_5 rfl ?_
    refine ii_iload_n 1 dX4_isNear_6 rfl ?_
    refine ii_iload_n 2 dX4_isNear_7 rfl ?_
    obtain ⟨c_10, hc_10, h⟩ := bnd h
    refine ii_callVi (As := [.int p0, .int p1]) (ws' := [(a_this, .inr (4, [.ref a_this_house, .ref a_this_ledger, .ref a_this_balances, .ref a_this_pairs, .ref a_this_uneven, .ref a_this_sums, .ref a_this_sets, .ref a_this_steps, .ref a_this_ring])), (a_this_pairs, .inl (cJ, 100, .inr (.inl v_this_pairs))), (a_this_steps, .inl (cI, 10, .inl v_this_steps))]) (st := []) (c_X4_isOwing l D cI cJ cZ cH a_this a_this_balances a_this_house a_this_ledger a_this_pairs a_this_ring a_this_sets a_this_steps a_this_sums a_this_uneven v_this_pairs p0 p1 hc_10) gzX4_107 rfl rfl rfl eV_X4_isOwing ⟨Nat.le_of_ble_eq_true rfl, Nat.le_of_ble_eq_true rfl⟩ rfl 0 rfl rfl [0, 1] rfl rfl rfl rfl rfl (Nat.le_of_ble_eq_true rfl) (Nat.le_refl _) (Nat.le_refl _) rfl dX4_isNear_8 ?_
    refine ii_topB h (fun t_11 hz_12 h => ?_)
    cases h
    exact hQ _ _ dX4_isNear_11 hz_12
set_option maxHeartbeats 4000000 in
set_option maxRecDepth 100000 in
theorem c_X4_lengthFrom (l : Launch) (D : va_G) (cI cJ cZ cH : ClassId) (a_this a_this_balances a_this_house a_this_ledger a_this_pairs a_this_ring a_this_sets a_this_steps a_this_sums a_this_uneven : Nat) (v_this_pairs : Nat → Int64) (v_this_steps : Nat → Int32) (p0 : Int32) {res : Int32 × (Nat → Int32)} (h : F_X4_lengthFrom v_this_pairs v_this_steps p0 = some res) : CTi l yX4_lengthFrom wzX4_lengthFrom { frames := 3, cells := 0, slots := 0, locals := 69 } D [(cI, .int), (cJ, .long), (cZ, .boolean), (cH, .object "TinHouse$House")] [.ref a_this, .int p0] [(a_this, .inr (4, [.ref a_this_house, .ref a_this_ledger, .ref a_this_balances, .ref a_this_pairs, .ref a_this_uneven, .ref a_this_sums, .ref a_this_sets, .ref a_this_steps, .ref a_this_ring])), (a_this_pairs, .inl (cJ, 100, .inr (.inl v_this_pairs))), (a_this_steps, .inl (cI, 10, .inl v_this_steps))] res.1 [(a_this, .inr (4, [.ref a_this_house, .ref a_this_ledger, .ref a_this_balances, .ref a_this_pairs, .ref a_this_uneven, .ref a_this_sums, .ref a_this_sets, .ref a_this_steps, .ref a_this_ring])), (a_this_pairs, .inl (cJ, 100, .inr (.inl v_this_pairs))), (a_this_steps, .inl (cI, 10, .inl res.2))] := by
  unfold F_X4_lengthFrom at h
  refine ii_metI (own := RX4) (lv0 := [(0, .ref a_this), (1, .int p0)]) (by decide) rfl rfl rfl (Nat.le_of_ble_eq_true rfl) (fun {p e s m args below meth c A Q} hQ => ?_)
  refine ii_aload_n 0 dX4_lengthFrom_0 rfl ?_
  refine ii_get (C := RX4) (T := TX4) (N := 9) (ci := 4) izX4 0 rfl rfl 7 (by decide) kX4_28 rfl dX4_lengthFrom_1 ?_
  refine ii_iconst dX4_lengthFrom_4 kc0 ?_
  obtain ⟨c_1, hc_1, h⟩ := bnd h
  refine ii_callJv (As := [.ref a_this_steps, .int (0 : Int32)]) (ws' := [(a_this, .inr (4, [.ref a_this_house, .ref a_this_ledger, .ref a_this_balances, .ref a_this_pairs, .ref a_this_uneven, .ref a_this_sums, .ref a_this_sets, .ref a_this_steps, .ref a_this_ring])), (a_this_pairs, .inl (cJ, 100, .inr (.inl v_this_pairs))), (a_this_steps, .inl (cI, 10, .inl c_1))]) (st := []) (c_J7_fill_53178 l D cI cJ cZ cH a_this_steps 10 v_this_steps (0 : Int32) hc_1) gzX4_100 rfl rfl rfl eJ_J7_fill_53178 ⟨Nat.le_of_ble_eq_true rfl, Nat.le_of_ble_eq_true rfl⟩ rfl [2] rfl rfl rfl rfl rfl (Nat.le_of_ble_eq_true rfl) (Nat.le_refl _) (Nat.le_refl _) rfl dX4_lengthFrom_5 ?_
  refine ii_iconst dX4_lengthFrom_8 kc1 ?_
  refine ii_istore_n (lv' := [(2, .int (1 : Int32)), (0, .ref a_this), (1, .int p0)]) dX4_lengthFrom_9 rfl (by decide) rfl ?_
  refine ii_lv [1, 2, 0] rfl ?_
  obtain ⟨x_3, hl_2, h⟩ := bnd h
  refine ii_loopX (fun s_2 => [(a_this, .inr (4, [.ref a_this_house, .ref a_this_ledger, .ref a_this_balances, .ref a_this_pairs, .ref a_this_uneven, .ref a_this_sums, .ref a_this_sets, .ref a_this_steps, .ref a_this_ring])), (a_this_pairs, .inl (cJ, 100, .inr (.inl v_this_pairs))), (a_this_steps, .inl (cI, 10, .inl s_2.2))]) (fun s_2 => [(0, .ref a_this), (1, .int p0), (2, .int s_2.1)]) (fun x_3 => [(a_this, .inr (4, [.ref a_this_house, .ref a_this_ledger, .ref a_this_balances, .ref a_this_pairs, .ref a_this_uneven, .ref a_this_sums, .ref a_this_sets, .ref a_this_steps, .ref a_this_ring])), (a_this_pairs, .inl (cJ, 100, .inr (.inl v_this_pairs))), (a_this_steps, .inl (cI, 10, .inl x_3.2))]) (fun x_3 => [(0, .ref a_this), (1, .int p0)]) 74 hl_2 rfl rfl ?_ (fun s_2 o h hb_2 hr_2 hx_2 => ?_)
  · skip
    refine ii_iconst dX4_lengthFrom_74 kc0 ?_
    refine ii_istore_n (lv' := [(2, .int (0 : Int32)), (0, .ref a_this), (1, .int p0)]) dX4_lengthFrom_75 rfl (by decide) rfl ?_
    refine ii_iload_n 2 dX4_lengthFrom_76 rfl ?_
    refine ii_iconst dX4_lengthFrom_77 kc1 ?_
    refine ii_iadd dX4_lengthFrom_78 ?_
    refine ii_topI h (fun x_13 h => ?_)
    refine ii_istore_n (lv' := [(3, .int x_13), (2, .int (0 : Int32)), (0, .ref a_this), (1, .int p0)]) dX4_lengthFrom_79 rfl (by decide) rfl ?_
    refine ii_lv [2, 3, 1, 0] rfl ?_
    obtain ⟨x_15, hl_14, h⟩ := bnd h
    refine ii_loopX (fun s_14 => [(a_this, .inr (4, [.ref a_this_house, .ref a_this_ledger, .ref a_this_balances, .ref a_this_pairs, .ref a_this_uneven, .ref a_this_sums, .ref a_this_sets, .ref a_this_steps, .ref a_this_ring])), (a_this_pairs, .inl (cJ, 100, .inr (.inl v_this_pairs))), (a_this_steps, .inl (cI, 10, .inl x_3.2))]) (fun s_14 => [(0, .ref a_this), (1, .int p0), (2, .int s_14.1), (3, .int s_14.2)]) (fun x_15 => [(a_this, .inr (4, [.ref a_this_house, .ref a_this_ledger, .ref a_this_balances, .ref a_this_pairs, .ref a_this_uneven, .ref a_this_sums, .ref a_this_sets, .ref a_this_steps, .ref a_this_ring])), (a_this_pairs, .inl (cJ, 100, .inr (.inl v_this_pairs))), (a_this_steps, .inl (cI, 10, .inl x_3.2))]) (fun x_15 => [(2, .int x_15.1)]) 145 hl_14 rfl rfl ?_ (fun s_14 o h hb_14 hr_14 hx_14 => ?_)
    · skip
      refine ii_iload_n 0 dX4_lengthFrom_145 rfl ?_
      cases h
      exact hQ _ _ dX4_lengthFrom_146
    · skip
      refine ii_iload_n 3 dX4_lengthFrom_80 rfl ?_
      refine ii_aload_n 0 dX4_lengthFrom_81 rfl ?_
      refine ii_get (C := RX4) (T := TX4) (N := 9) (ci := 4) izX4 0 rfl rfl 7 (by decide) kX4_28 rfl dX4_lengthFrom_82 ?_
      refine ii_alen (v := (10 : Int32)) 2 0 rfl rfl rfl dX4_lengthFrom_85 ?_
      refine ii_icmp_ge (tgt := 145) h dX4_lengthFrom_86 (by decide) (fun h => ?_) (fun h => ?_)
      · skip
        refine ii_lv [2] rfl ?_
        cases h
        exact hx_14 (s_14.1, s_14.2) (hr_14 _ rfl)
      · skip
        refine ii_iload_n 3 dX4_lengthFrom_89 rfl ?_
        refine ii_jn h (fun j_16 => [(a_this, .inr (4, [.ref a_this_house, .ref a_this_ledger, .ref a_this_balances, .ref a_this_pairs, .ref a_this_uneven, .ref a_this_sums, .ref a_this_sets, .ref a_this_steps, .ref a_this_ring])), (a_this_pairs, .inl (cJ, 100, .inr (.inl v_this_pairs))), (a_this_steps, .inl (cI, 10, .inl x_3.2))]) (fun j_16 => [(0, .ref a_this), (1, .int p0), (2, .int j_16), (3, .int s_14.2)]) 139 (fun j_16 => []) (fun j_16 h => ?_) (fun j_16 h hjj_16 => ?_)
        · skip
          refine ii_iinc (fun x_22 => [(3, .int x_22), (0, .ref a_this), (1, .int p0), (2, .int j_16)]) h 3 dX4_lengthFrom_139 rfl kc1 (by decide) (fun _ => rfl) (fun x_22 h => ?_)
          refine ii_goto (tgt := 80) dX4_lengthFrom_142 (by decide) ?_
          refine ii_lv [1, 2, 3, 0] rfl ?_
          cases h
          exact hb_14 (j_16, x_22) rfl
        · skip
          refine ii_if_lt (tgt := 139) h dX4_lengthFrom_90 (by decide) (fun h => ?_) (fun h => ?_)
          · skip
            cases h
            exact hjj_16
          · skip
            refine ii_aload_n 0 dX4_lengthFrom_93 rfl ?_
            refine ii_get (C := RX4) (T := TX4) (N := 9) (ci := 4) izX4 0 rfl rfl 7 (by decide) kX4_28 rfl dX4_lengthFrom_94 ?_
            refine ii_iload_n 3 dX4_lengthFrom_97 rfl ?_
            refine ii_iald h 2 0 rfl rfl dX4_lengthFrom_98 (fun t_17 h => ?_)
            refine ii_if_le (tgt := 139) h dX4_lengthFrom_99 (by decide) (fun h => ?_) (fun h => ?_)
            · skip
              cases h
              exact hjj_16
            · skip
              refine ii_aload_n 0 dX4_lengthFrom_102 rfl ?_
              refine ii_iload_n 1 dX4_lengthFrom_103 rfl ?_
              refine ii_iload_n 3 dX4_lengthFrom_104 rfl ?_
              obtain ⟨c_18, hc_18, h⟩ := bnd h
              refine ii_callVi (As := [.int p0, .int s_14.2]) (ws' := [(a_this, .inr (4, [.ref a_this_house, .ref a_this_ledger, .ref a_this_balances, .ref a_this_pairs, .ref a_this_uneven, .ref a_this_sums, .ref a_this_sets, .ref a_this_steps, .ref a_this_ring])), (a_this_pairs, .inl (cJ, 100, .inr (.inl v_this_pairs))), (a_this_steps, .inl (cI, 10, .inl x_3.2))]) (st := []) (c_X4_isOwing l D cI cJ cZ cH a_this a_this_balances a_this_house a_this_ledger a_this_pairs a_this_ring a_this_sets a_this_steps a_this_sums a_this_uneven v_this_pairs p0 s_14.2 hc_18) gzX4_107 rfl rfl rfl eV_X4_isOwing ⟨Nat.le_of_ble_eq_true rfl, Nat.le_of_ble_eq_true rfl⟩ rfl 0 rfl rfl [0, 1] rfl rfl rfl rfl rfl (Nat.le_of_ble_eq_true rfl) (Nat.le_refl _) (Nat.le_refl _) rfl dX4_lengthFrom_105 ?_
              refine ii_if_eq (tgt := 139) h dX4_lengthFrom_108 (by decide) (fun h => ?_) (fun h => ?_)
              · skip
                cases h
                exact hjj_16
              · skip
                refine ii_iload_n 2 dX4_lengthFrom_111 rfl ?_
                refine ii_jn h (fun j_19 => [(a_this, .inr (4, [.ref a_this_house, .ref a_this_ledger, .ref a_this_balances, .ref a_this_pairs, .ref a_this_uneven, .ref a_this_sums, .ref a_this_sets, .ref a_this_steps, .ref a_this_ring])), (a_this_pairs, .inl (cJ, 100, .inr (.inl v_this_pairs))), (a_this_steps, .inl (cI, 10, .inl x_3.2))]) (fun j_19 => [(0, .ref a_this), (1, .int p0), (3, .int s_14.2)]) 138 (fun j_19 => [.int j_19]) (fun j_19 h => ?_) (fun j_19 h hjj_19 => ?_)
                · skip
                  refine ii_istore_n (lv' := [(2, .int j_19), (0, .ref a_this), (1, .int p0), (3, .int s_14.2)]) dX4_lengthFrom_138 rfl (by decide) rfl ?_
                  refine ii_lv [1, 2, 0, 3] rfl ?_
                  cases h
                  exact hjj_16
                · skip
                  refine ii_if_ne (tgt := 126) h dX4_lengthFrom_112 (by decide) (fun h => ?_) (fun h => ?_)
                  · skip
                    refine ii_iload_n 2 dX4_lengthFrom_126 rfl ?_
                    refine ii_aload_n 0 dX4_lengthFrom_127 rfl ?_
                    refine ii_get (C := RX4) (T := TX4) (N := 9) (ci := 4) izX4 0 rfl rfl 7 (by decide) kX4_28 rfl dX4_lengthFrom_128 ?_
                    refine ii_iload_n 3 dX4_lengthFrom_131 rfl ?_
                    refine ii_iald h 2 0 rfl rfl dX4_lengthFrom_132 (fun t_20 h => ?_)
                    refine ii_iconst dX4_lengthFrom_133 kc1 ?_
                    refine ii_iadd dX4_lengthFrom_134 ?_
                    refine ii_mmin mX4_111 ms_min mi_Math mc_min (Nat.le_of_ble_eq_true rfl) (Nat.le_of_ble_eq_true rfl) (Nat.le_refl _) (Nat.le_refl _) dX4_lengthFrom_135 ?_
                    refine ii_lv [0, 1, 3] rfl ?_
                    cases h
                    exact hjj_19
                  · skip
                    refine ii_aload_n 0 dX4_lengthFrom_115 rfl ?_
                    refine ii_get (C := RX4) (T := TX4) (N := 9) (ci := 4) izX4 0 rfl rfl 7 (by decide) kX4_28 rfl dX4_lengthFrom_116 ?_
                    refine ii_iload_n 3 dX4_lengthFrom_119 rfl ?_
                    refine ii_iald h 2 0 rfl rfl dX4_lengthFrom_120 (fun t_21 h => ?_)
                    refine ii_iconst dX4_lengthFrom_121 kc1 ?_
                    refine ii_iadd dX4_lengthFrom_122 ?_
                    refine ii_goto (tgt := 138) dX4_lengthFrom_123 (by decide) ?_
                    refine ii_lv [0, 1, 3] rfl ?_
                    cases h
                    exact hjj_19
  · skip
    refine ii_iload_n 2 dX4_lengthFrom_10 rfl ?_
    refine ii_aload_n 0 dX4_lengthFrom_11 rfl ?_
    refine ii_get (C := RX4) (T := TX4) (N := 9) (ci := 4) izX4 0 rfl rfl 7 (by decide) kX4_28 rfl dX4_lengthFrom_12 ?_
    refine ii_alen (v := (10 : Int32)) 2 0 rfl rfl rfl dX4_lengthFrom_15 ?_
    refine ii_icmp_ge (tgt := 74) h dX4_lengthFrom_16 (by decide) (fun h => ?_) (fun h => ?_)
    · skip
      refine ii_lv [0, 1] rfl ?_
      cases h
      exact hx_2 (s_2.1, s_2.2) (hr_2 _ rfl)
    · skip
      refine ii_iload_n 1 dX4_lengthFrom_19 rfl ?_
      refine ii_iconst dX4_lengthFrom_20 kc1 ?_
      refine ii_iadd dX4_lengthFrom_21 ?_
      refine ii_topI h (fun x_4 h => ?_)
      refine ii_istore_n (lv' := [(3, .int x_4), (0, .ref a_this), (1, .int p0), (2, .int s_2.1)]) dX4_lengthFrom_22 rfl (by decide) rfl ?_
      refine ii_lv [1, 2, 3, 0] rfl ?_
      obtain ⟨x_6, hl_5, h⟩ := bnd h
      refine ii_loopX (fun s_5 => [(a_this, .inr (4, [.ref a_this_house, .ref a_this_ledger, .ref a_this_balances, .ref a_this_pairs, .ref a_this_uneven, .ref a_this_sums, .ref a_this_sets, .ref a_this_steps, .ref a_this_ring])), (a_this_pairs, .inl (cJ, 100, .inr (.inl v_this_pairs))), (a_this_steps, .inl (cI, 10, .inl s_5.2))]) (fun s_5 => [(0, .ref a_this), (1, .int p0), (2, .int s_2.1), (3, .int s_5.1)]) (fun x_6 => [(a_this, .inr (4, [.ref a_this_house, .ref a_this_ledger, .ref a_this_balances, .ref a_this_pairs, .ref a_this_uneven, .ref a_this_sums, .ref a_this_sets, .ref a_this_steps, .ref a_this_ring])), (a_this_pairs, .inl (cJ, 100, .inr (.inl v_this_pairs))), (a_this_steps, .inl (cI, 10, .inl x_6.2))]) (fun x_6 => [(0, .ref a_this), (1, .int p0), (2, .int s_2.1)]) 68 hl_5 rfl rfl ?_ (fun s_5 o h hb_5 hr_5 hx_5 => ?_)
      · skip
        refine ii_iinc (fun x_12 => [(2, .int x_12), (0, .ref a_this), (1, .int p0)]) h 2 dX4_lengthFrom_68 rfl kc1 (by decide) (fun _ => rfl) (fun x_12 h => ?_)
        refine ii_goto (tgt := 10) dX4_lengthFrom_71 (by decide) ?_
        refine ii_lv [1, 2, 0] rfl ?_
        cases h
        exact hb_2 (x_12, x_6.2) rfl
      · skip
        refine ii_iload_n 3 dX4_lengthFrom_23 rfl ?_
        refine ii_aload_n 0 dX4_lengthFrom_24 rfl ?_
        refine ii_get (C := RX4) (T := TX4) (N := 9) (ci := 4) izX4 0 rfl rfl 7 (by decide) kX4_28 rfl dX4_lengthFrom_25 ?_
        refine ii_alen (v := (10 : Int32)) 2 0 rfl rfl rfl dX4_lengthFrom_28 ?_
        refine ii_icmp_ge (tgt := 68) h dX4_lengthFrom_29 (by decide) (fun h => ?_) (fun h => ?_)
        · skip
          refine ii_lv [0, 1, 2] rfl ?_
          cases h
          exact hx_5 (s_5.1, s_5.2) (hr_5 _ rfl)
        · skip
          refine ii_iload_n 3 dX4_lengthFrom_32 rfl ?_
          refine ii_jn h (fun j_7 => [(a_this, .inr (4, [.ref a_this_house, .ref a_this_ledger, .ref a_this_balances, .ref a_this_pairs, .ref a_this_uneven, .ref a_this_sums, .ref a_this_sets, .ref a_this_steps, .ref a_this_ring])), (a_this_pairs, .inl (cJ, 100, .inr (.inl v_this_pairs))), (a_this_steps, .inl (cI, 10, .inl j_7))]) (fun j_7 => [(0, .ref a_this), (1, .int p0), (2, .int s_2.1), (3, .int s_5.1)]) 62 (fun j_7 => []) (fun j_7 h => ?_) (fun j_7 h hjj_7 => ?_)
          · skip
            refine ii_iinc (fun x_11 => [(3, .int x_11), (0, .ref a_this), (1, .int p0), (2, .int s_2.1)]) h 3 dX4_lengthFrom_62 rfl kc1 (by decide) (fun _ => rfl) (fun x_11 h => ?_)
            refine ii_goto (tgt := 23) dX4_lengthFrom_65 (by decide) ?_
            refine ii_lv [1, 2, 3, 0] rfl ?_
            cases h
            exact hb_5 (x_11, j_7) rfl
          · skip
            refine ii_if_lt (tgt := 62) h dX4_lengthFrom_33 (by decide) (fun h => ?_) (fun h => ?_)
            · skip
              cases h
              exact hjj_7
            · skip
              refine ii_aload_n 0 dX4_lengthFrom_36 rfl ?_
              refine ii_get (C := RX4) (T := TX4) (N := 9) (ci := 4) izX4 0 rfl rfl 7 (by decide) kX4_28 rfl dX4_lengthFrom_37 ?_
              refine ii_iload_n 3 dX4_lengthFrom_40 rfl ?_
              refine ii_iald h 2 0 rfl rfl dX4_lengthFrom_41 (fun t_8 h => ?_)
              refine ii_if_ne (tgt := 62) h dX4_lengthFrom_42 (by decide) (fun h => ?_) (fun h => ?_)
              · skip
                cases h
                exact hjj_7
              · skip
                refine ii_aload_n 0 dX4_lengthFrom_45 rfl ?_
                refine ii_iload_n 3 dX4_lengthFrom_46 rfl ?_
                refine ii_iload_n 1 dX4_lengthFrom_47 rfl ?_
                refine ii_iload_n 2 dX4_lengthFrom_48 rfl ?_
                obtain ⟨c_9, hc_9, h⟩ := bnd h
                refine ii_callVi (As := [.int s_5.1, .int p0, .int s_2.1]) (ws' := [(a_this, .inr (4, [.ref a_this_house, .ref a_this_ledger, .ref a_this_balances, .ref a_this_pairs, .ref a_this_uneven, .ref a_this_sums, .ref a_this_sets, .ref a_this_steps, .ref a_this_ring])), (a_this_pairs, .inl (cJ, 100, .inr (.inl v_this_pairs))), (a_this_steps, .inl (cI, 10, .inl s_5.2))]) (st := []) (c_X4_isNear l D cI cJ cZ cH a_this a_this_balances a_this_house a_this_ledger a_this_pairs a_this_ring a_this_sets a_this_steps a_this_sums a_this_uneven v_this_pairs s_5.2 s_5.1 p0 s_2.1 hc_9) gzX4_103 rfl rfl rfl eV_X4_isNear ⟨Nat.le_of_ble_eq_true rfl, Nat.le_of_ble_eq_true rfl⟩ rfl 0 rfl rfl [0, 1, 2] rfl rfl rfl rfl rfl (Nat.le_of_ble_eq_true rfl) (Nat.le_refl _) (Nat.le_refl _) rfl dX4_lengthFrom_49 ?_
                refine ii_if_eq (tgt := 62) h dX4_lengthFrom_52 (by decide) (fun h => ?_) (fun h => ?_)
                · skip
                  cases h
                  exact hjj_7
                · skip
                  refine ii_aload_n 0 dX4_lengthFrom_55 rfl ?_
                  refine ii_get (C := RX4) (T := TX4) (N := 9) (ci := 4) izX4 0 rfl rfl 7 (by decide) kX4_28 rfl dX4_lengthFrom_56 ?_
                  refine ii_iload_n 3 dX4_lengthFrom_59 rfl ?_
                  refine ii_iload_n 2 dX4_lengthFrom_60 rfl ?_
                  refine ii_iast (fun g_10 => [(a_this, .inr (4, [.ref a_this_house, .ref a_this_ledger, .ref a_this_balances, .ref a_this_pairs, .ref a_this_uneven, .ref a_this_sums, .ref a_this_sets, .ref a_this_steps, .ref a_this_ring])), (a_this_pairs, .inl (cJ, 100, .inr (.inl v_this_pairs))), (a_this_steps, .inl (cI, 10, .inl g_10))]) h 2 0 rfl rfl dX4_lengthFrom_61 (fun _ => rfl) (fun g_10 h => ?_)
                  cases h
                  exact hjj_7
set_option maxHeartbeats 4000000 in
set_option maxRecDepth 100000 in
theorem c_X4_firstStep (l : Launch) (D : va_G) (cI cJ cZ cH : ClassId) (a_this a_this_balances a_this_house a_this_ledger a_this_pairs a_this_ring a_this_sets a_this_steps a_this_sums a_this_uneven : Nat) (v_this_pairs : Nat → Int64) (v_this_steps : Nat → Int32) (p0 : Int32) (p1 : Int32) (p2 : Int32) {res : Int32} (h : F_X4_firstStep v_this_pairs v_this_steps p0 p1 p2 = some res) : CTi l yX4_firstStep wzX4_firstStep { frames := 2, cells := 0, slots := 0, locals := 45 } D [(cI, .int), (cJ, .long), (cZ, .boolean), (cH, .object "TinHouse$House")] [.ref a_this, .int p0, .int p1, .int p2] [(a_this, .inr (4, [.ref a_this_house, .ref a_this_ledger, .ref a_this_balances, .ref a_this_pairs, .ref a_this_uneven, .ref a_this_sums, .ref a_this_sets, .ref a_this_steps, .ref a_this_ring])), (a_this_pairs, .inl (cJ, 100, .inr (.inl v_this_pairs))), (a_this_steps, .inl (cI, 10, .inl v_this_steps))] res [(a_this, .inr (4, [.ref a_this_house, .ref a_this_ledger, .ref a_this_balances, .ref a_this_pairs, .ref a_this_uneven, .ref a_this_sums, .ref a_this_sets, .ref a_this_steps, .ref a_this_ring])), (a_this_pairs, .inl (cJ, 100, .inr (.inl v_this_pairs))), (a_this_steps, .inl (cI, 10, .inl v_this_steps))] := by
  unfold F_X4_firstStep at h
  refine ii_metI (own := RX4) (lv0 := [(0, .ref a_this), (1, .int p0), (2, .int p1), (3, .int p2)]) (by decide) rfl rfl rfl (Nat.le_of_ble_eq_true rfl) (fun {p e s m args below meth c A Q} hQ => ?_)
  refine ii_iload_n 2 dX4_firstStep_0 rfl ?_
  refine ii_iconst dX4_firstStep_1 kc1 ?_
  refine ii_iadd dX4_firstStep_2 ?_
  refine ii_topI h (fun x_1 h => ?_)
  refine ii_istore (lv' := [(4, .int x_1), (0, .ref a_this), (1, .int p0), (2, .int p1), (3, .int p2)]) dX4_firstStep_3 (by decide) rfl ?_
  refine ii_lv [1, 2, 3, 4, 0] rfl ?_
  obtain ⟨x_3, hl_2, ha_2⟩ := bnd h
  refine ii_loopR (fun s_2 => [(a_this, .inr (4, [.ref a_this_house, .ref a_this_ledger, .ref a_this_balances, .ref a_this_pairs, .ref a_this_uneven, .ref a_this_sums, .ref a_this_sets, .ref a_this_steps, .ref a_this_ring])), (a_this_pairs, .inl (cJ, 100, .inr (.inl v_this_pairs))), (a_this_steps, .inl (cI, 10, .inl v_this_steps))]) (fun s_2 => [(0, .ref a_this), (1, .int p0), (2, .int p1), (3, .int p2), (4, .int s_2)]) (fun y_4 => [(a_this, .inr (4, [.ref a_this_house, .ref a_this_ledger, .ref a_this_balances, .ref a_this_pairs, .ref a_this_uneven, .ref a_this_sums, .ref a_this_sets, .ref a_this_steps, .ref a_this_ring])), (a_this_pairs, .inl (cJ, 100, .inr (.inl v_this_pairs))), (a_this_steps, .inl (cI, 10, .inl v_this_steps))]) (fun y_4 => [(2, .int p1)]) 50 hl_2 rfl rfl (fun y_4 hy => ?_) (fun s_2 o h hb_2 hr_2 hx_2 => ?_)
  · skip
    subst hy
    have h := sm_l ha_2
    refine ii_iload_n 0 dX4_firstStep_50 rfl ?_
    cases h
    exact hQ _ _ dX4_firstStep_51
  · skip
    refine ii_iload 4 dX4_firstStep_5 rfl ?_
    refine ii_aload_n 0 dX4_firstStep_7 rfl ?_
    refine ii_get (C := RX4) (T := TX4) (N := 9) (ci := 4) izX4 0 rfl rfl 7 (by decide) kX4_28 rfl dX4_firstStep_8 ?_
    refine ii_alen (v := (10 : Int32)) 2 0 rfl rfl rfl dX4_firstStep_11 ?_
    refine ii_icmp_ge (tgt := 50) h dX4_firstStep_12 (by decide) (fun h => ?_) (fun h => ?_)
    · skip
      refine ii_lv [2] rfl ?_
      cases h
      exact hx_2 s_2 (hr_2 _ rfl)
    · skip
      refine ii_iload 4 dX4_firstStep_15 rfl ?_
      refine ii_if_lt (tgt := 44) h dX4_firstStep_17 (by decide) (fun h => ?_) (fun h => ?_)
      · skip
        refine ii_iinc (fun x_5 => [(4, .int x_5), (0, .ref a_this), (1, .int p0), (2, .int p1), (3, .int p2)]) h 4 dX4_firstStep_44 rfl kc1 (by decide) (fun _ => rfl) (fun x_5 h => ?_)
        refine ii_goto (tgt := 5) dX4_firstStep_47 (by decide) ?_
        refine ii_lv [1, 2, 3, 4, 0] rfl ?_
        cases h
        exact hb_2 x_5 rfl
      · skip
        refine ii_aload_n 0 dX4_firstStep_20 rfl ?_
        refine ii_get (C := RX4) (T := TX4) (N := 9) (ci := 4) izX4 0 rfl rfl 7 (by decide) kX4_28 rfl dX4_firstStep_21 ?_
        refine ii_iload 4 dX4_firstStep_24 rfl ?_
        refine ii_iald h 2 0 rfl rfl dX4_firstStep_26 (fun t_6 h => ?_)
        refine ii_iload_n 3 dX4_firstStep_27 rfl ?_
        refine ii_icmp_ne (tgt := 44) h dX4_firstStep_28 (by decide) (fun h => ?_) (fun h => ?_)
        · skip
          refine ii_iinc (fun x_7 => [(4, .int x_7), (0, .ref a_this), (1, .int p0), (2, .int p1), (3, .int p2)]) h 4 dX4_firstStep_44 rfl kc1 (by decide) (fun _ => rfl) (fun x_7 h => ?_)
          refine ii_goto (tgt := 5) dX4_firstStep_47 (by decide) ?_
          refine ii_lv [1, 2, 3, 4, 0] rfl ?_
          cases h
          exact hb_2 x_7 rfl
        · skip
          refine ii_aload_n 0 dX4_firstStep_31 rfl ?_
          refine ii_iload_n 1 dX4_firstStep_32 rfl ?_
          refine ii_iload 4 dX4_firstStep_33 rfl ?_
          obtain ⟨c_8, hc_8, h⟩ := bnd h
          refine ii_callVi (As := [.int p0, .int s_2]) (ws' := [(a_this, .inr (4, [.ref a_this_house, .ref a_this_ledger, .ref a_this_balances, .ref a_this_pairs, .ref a_this_uneven, .ref a_this_sums, .ref a_this_sets, .ref a_this_steps, .ref a_this_ring])), (a_this_pairs, .inl (cJ, 100, .inr (.inl v_this_pairs))), (a_this_steps, .inl (cI, 10, .inl v_this_steps))]) (st := []) (c_X4_isOwing l D cI cJ cZ cH a_this a_this_balances a_this_house a_this_ledger a_this_pairs a_this_ring a_this_sets a_this_steps a_this_sums a_this_uneven v_this_pairs p0 s_2 hc_8) gzX4_107 rfl rfl rfl eV_X4_isOwing ⟨Nat.le_of_ble_eq_true rfl, Nat.le_of_ble_eq_true rfl⟩ rfl 0 rfl rfl [0, 1] rfl rfl rfl rfl rfl (Nat.le_of_ble_eq_true rfl) (Nat.le_refl _) (Nat.le_refl _) rfl dX4_firstStep_35 ?_
          refine ii_if_eq (tgt := 44) h dX4_firstStep_38 (by decide) (fun h => ?_) (fun h => ?_)
          · skip
            refine ii_iinc (fun x_9 => [(4, .int x_9), (0, .ref a_this), (1, .int p0), (2, .int p1), (3, .int p2)]) h 4 dX4_firstStep_44 rfl kc1 (by decide) (fun _ => rfl) (fun x_9 h => ?_)
            refine ii_goto (tgt := 5) dX4_firstStep_47 (by decide) ?_
            refine ii_lv [1, 2, 3, 4, 0] rfl ?_
            cases h
            exact hb_2 x_9 rfl
          · skip
            refine ii_iload 4 dX4_firstStep_41 rfl ?_
            cases h
            cases hr_2 _ rfl
            have h := sm_r ha_2
            cases h
            exact hQ _ _ dX4_firstStep_43
set_option maxHeartbeats 4000000 in
set_option maxRecDepth 100000 in
theorem c_X4_follow (l : Launch) (D : va_G) (cI cJ cZ cH : ClassId) (a_this a_this_balances a_this_house a_this_ledger a_this_pairs a_this_ring a_this_sets a_this_steps a_this_sums a_this_uneven : Nat) (v_this_pairs : Nat → Int64) (v_this_ring : Nat → Int32) (v_this_steps : Nat → Int32) (p0 : Int32) (p1 : Int32) {res : (Nat → Int32)} (h : F_X4_follow v_this_pairs v_this_ring v_this_steps p0 p1 = some res) : CTv l yX4_follow wzX4_follow { frames := 3, cells := 0, slots := 0, locals := 69 } D [(cI, .int), (cJ, .long), (cZ, .boolean), (cH, .object "TinHouse$House")] [.ref a_this, .int p0, .int p1] [(a_this, .inr (4, [.ref a_this_house, .ref a_this_ledger, .ref a_this_balances, .ref a_this_pairs, .ref a_this_uneven, .ref a_this_sums, .ref a_this_sets, .ref a_this_steps, .ref a_this_ring])), (a_this_pairs, .inl (cJ, 100, .inr (.inl v_this_pairs))), (a_this_ring, .inl (cI, 10, .inl v_this_ring)), (a_this_steps, .inl (cI, 10, .inl v_this_steps))] [(a_this, .inr (4, [.ref a_this_house, .ref a_this_ledger, .ref a_this_balances, .ref a_this_pairs, .ref a_this_uneven, .ref a_this_sums, .ref a_this_sets, .ref a_this_steps, .ref a_this_ring])), (a_this_pairs, .inl (cJ, 100, .inr (.inl v_this_pairs))), (a_this_ring, .inl (cI, 10, .inl res)), (a_this_steps, .inl (cI, 10, .inl v_this_steps))] := by
  unfold F_X4_follow at h
  refine ii_metV (own := RX4) (lv0 := [(0, .ref a_this), (1, .int p0), (2, .int p1)]) (by decide) rfl rfl rfl (Nat.le_of_ble_eq_true rfl) (fun {p e s m args below meth c A Q} hQ => ?_)
  refine ii_iload_n 1 dX4_follow_0 rfl ?_
  refine ii_istore_n (lv' := [(3, .int p0), (0, .ref a_this), (1, .int p0), (2, .int p1)]) dX4_follow_1 rfl (by decide) rfl ?_
  refine ii_iconst dX4_follow_2 kc0 ?_
  refine ii_istore (lv' := [(4, .int (0 : Int32)), (3, .int p0), (0, .ref a_this), (1, .int p0), (2, .int p1)]) dX4_follow_3 (by decide) rfl ?_
  refine ii_lv [2, 3, 4, 1, 0] rfl ?_
  obtain ⟨x_2, hl_1, h⟩ := bnd h
  refine ii_loopX (fun s_1 => [(a_this, .inr (4, [.ref a_this_house, .ref a_this_ledger, .ref a_this_balances, .ref a_this_pairs, .ref a_this_uneven, .ref a_this_sums, .ref a_this_sets, .ref a_this_steps, .ref a_this_ring])), (a_this_pairs, .inl (cJ, 100, .inr (.inl v_this_pairs))), (a_this_ring, .inl (cI, 10, .inl s_1.2.2)), (a_this_steps, .inl (cI, 10, .inl v_this_steps))]) (fun s_1 => [(0, .ref a_this), (1, .int p0), (2, .int p1), (3, .int s_1.1), (4, .int s_1.2.1)]) (fun x_2 => [(a_this, .inr (4, [.ref a_this_house, .ref a_this_ledger, .ref a_this_balances, .ref a_this_pairs, .ref a_this_uneven, .ref a_this_sums, .ref a_this_sets, .ref a_this_steps, .ref a_this_ring])), (a_this_pairs, .inl (cJ, 100, .inr (.inl v_this_pairs))), (a_this_ring, .inl (cI, 10, .inl x_2.2.2)), (a_this_steps, .inl (cI, 10, .inl v_this_steps))]) (fun x_2 => []) 48 hl_1 rfl rfl ?_ (fun s_1 o h hb_1 hr_1 hx_1 => ?_)
  · skip
    cases h
    exact hQ _ _ dX4_follow_48
  · skip
    refine ii_iload 4 dX4_follow_5 rfl ?_
    refine ii_iload_n 2 dX4_follow_7 rfl ?_
    refine ii_icmp_ge (tgt := 48) h dX4_follow_8 (by decide) (fun h => ?_) (fun h => ?_)
    · skip
      refine ii_lv [] rfl ?_
      cases h
      exact hx_1 (s_1.1, s_1.2.1, s_1.2.2) (hr_1 _ rfl)
    · skip
      refine ii_iload 4 dX4_follow_11 rfl ?_
      refine ii_aload_n 0 dX4_follow_13 rfl ?_
      refine ii_get (C := RX4) (T := TX4) (N := 9) (ci := 4) izX4 0 rfl rfl 8 (by decide) kX4_31 rfl dX4_follow_14 ?_
      refine ii_alen (v := (10 : Int32)) 2 0 rfl rfl rfl dX4_follow_17 ?_
      refine ii_icmp_ge (tgt := 48) h dX4_follow_18 (by decide) (fun h => ?_) (fun h => ?_)
      · skip
        refine ii_lv [] rfl ?_
        cases h
        exact hx_1 (s_1.1, s_1.2.1, s_1.2.2) (hr_1 _ rfl)
      · skip
        refine ii_aload_n 0 dX4_follow_21 rfl ?_
        refine ii_get (C := RX4) (T := TX4) (N := 9) (ci := 4) izX4 0 rfl rfl 8 (by decide) kX4_31 rfl dX4_follow_22 ?_
        refine ii_iload 4 dX4_follow_25 rfl ?_
        refine ii_iload_n 3 dX4_follow_27 rfl ?_
        refine ii_iast (fun g_3 => [(a_this, .inr (4, [.ref a_this_house, .ref a_this_ledger, .ref a_this_balances, .ref a_this_pairs, .ref a_this_uneven, .ref a_this_sums, .ref a_this_sets, .ref a_this_steps, .ref a_this_ring])), (a_this_pairs, .inl (cJ, 100, .inr (.inl v_this_pairs))), (a_this_ring, .inl (cI, 10, .inl g_3)), (a_this_steps, .inl (cI, 10, .inl v_this_steps))]) h 2 0 rfl rfl dX4_follow_28 (fun _ => rfl) (fun g_3 h => ?_)
        refine ii_aload_n 0 dX4_follow_29 rfl ?_
        refine ii_iload_n 3 dX4_follow_30 rfl ?_
        refine ii_iload_n 1 dX4_follow_31 rfl ?_
        refine ii_iload_n 2 dX4_follow_32 rfl ?_
        refine ii_iload 4 dX4_follow_33 rfl ?_
        refine ii_isub dX4_follow_35 ?_
        refine ii_iconst dX4_follow_36 kc1 ?_
        refine ii_isub dX4_follow_37 ?_
        obtain ⟨c_4, hc_4, h⟩ := bnd h
        refine ii_callVi (As := [.int s_1.1, .int p0, .int ((p1 - s_1.2.1) - (1 : Int32))]) (ws' := [(a_this, .inr (4, [.ref a_this_house, .ref a_this_ledger, .ref a_this_balances, .ref a_this_pairs, .ref a_this_uneven, .ref a_this_sums, .ref a_this_sets, .ref a_this_steps, .ref a_this_ring])), (a_this_pairs, .inl (cJ, 100, .inr (.inl v_this_pairs))), (a_this_ring, .inl (cI, 10, .inl g_3)), (a_this_steps, .inl (cI, 10, .inl v_this_steps))]) (st := []) (c_X4_firstStep l D cI cJ cZ cH a_this a_this_balances a_this_house a_this_ledger a_this_pairs a_this_ring a_this_sets a_this_steps a_this_sums a_this_uneven v_this_pairs v_this_steps s_1.1 p0 ((p1 - s_1.2.1) - (1 : Int32)) hc_4) gzX4_114 rfl rfl rfl eV_X4_firstStep ⟨Nat.le_of_ble_eq_true rfl, Nat.le_of_ble_eq_true rfl⟩ rfl 0 rfl rfl [0, 1, 3] rfl rfl rfl rfl rfl (Nat.le_of_ble_eq_true rfl) (Nat.le_refl _) (Nat.le_refl _) rfl dX4_follow_38 ?_
        refine ii_istore_n (lv' := [(3, .int c_4), (0, .ref a_this), (1, .int p0), (2, .int p1), (4, .int s_1.2.1)]) dX4_follow_41 rfl (by decide) rfl ?_
        refine ii_iinc (fun x_5 => [(4, .int x_5), (3, .int c_4), (0, .ref a_this), (1, .int p0), (2, .int p1)]) h 4 dX4_follow_42 rfl kc1 (by decide) (fun _ => rfl) (fun x_5 h => ?_)
        refine ii_goto (tgt := 5) dX4_follow_45 (by decide) ?_
        refine ii_lv [2, 3, 4, 1, 0] rfl ?_
        cases h
        exact hb_1 (c_4, x_5, g_3) rfl
set_option maxHeartbeats 4000000 in
set_option maxRecDepth 100000 in
theorem c_X4_layRing (l : Launch) (D : va_G) (cI cJ cZ cH : ClassId) (a_this a_this_balances a_this_house a_this_house_acts a_this_house_debts a_this_house_gates a_this_house_letters a_this_house_loads a_this_house_mentions a_this_house_merchants a_this_house_merchants_cells a_this_house_payments a_this_house_prices a_this_house_purses a_this_house_stones a_this_house_texts a_this_house_told a_this_ledger a_this_pairs a_this_ring a_this_sets a_this_steps a_this_sums a_this_uneven : Nat) (v_this_house_merchants_rows : Int32) (v_this_house_names : Int32) (v_this_house_narrow : Int32) (v_this_pairs : Nat → Int64) (v_this_ring : Nat → Int32) (v_this_steps : Nat → Int32) {res : Int32 × (Nat → Int32) × (Nat → Int32)} (h : F_X4_layRing v_this_house_merchants_rows v_this_pairs v_this_ring v_this_steps = some res) : CTi l yX4_layRing wzX4_layRing { frames := 4, cells := 0, slots := 0, locals := 93 } D [(cI, .int), (cJ, .long), (cZ, .boolean), (cH, .object "TinHouse$House")] [.ref a_this] [(a_this, .inr (4, [.ref a_this_house, .ref a_this_ledger, .ref a_this_balances, .ref a_this_pairs, .ref a_this_uneven, .ref a_this_sums, .ref a_this_sets, .ref a_this_steps, .ref a_this_ring])), (a_this_house, .inr (0, [.ref a_this_house_merchants, .ref a_this_house_texts, .ref a_this_house_acts, .ref a_this_house_debts, .ref a_this_house_payments, .ref a_this_house_purses, .ref a_this_house_gates, .ref a_this_house_stones, .ref a_this_house_told, .ref a_this_house_letters, .ref a_this_house_mentions, .ref a_this_house_loads, .ref a_this_house_prices, .int v_this_house_narrow, .int v_this_house_names])), (a_this_house_merchants, .inr (8, [.int (2 : Int32), .int (10 : Int32), .ref a_this_house_merchants_cells, .int v_this_house_merchants_rows])), (a_this_pairs, .inl (cJ, 100, .inr (.inl v_this_pairs))), (a_this_ring, .inl (cI, 10, .inl v_this_ring)), (a_this_steps, .inl (cI, 10, .inl v_this_steps))] res.1 [(a_this, .inr (4, [.ref a_this_house, .ref a_this_ledger, .ref a_this_balances, .ref a_this_pairs, .ref a_this_uneven, .ref a_this_sums, .ref a_this_sets, .ref a_this_steps, .ref a_this_ring])), (a_this_house, .inr (0, [.ref a_this_house_merchants, .ref a_this_house_texts, .ref a_this_house_acts, .ref a_this_house_debts, .ref a_this_house_payments, .ref a_this_house_purses, .ref a_this_house_gates, .ref a_this_house_stones, .ref a_this_house_told, .ref a_this_house_letters, .ref a_this_house_mentions, .ref a_this_house_loads, .ref a_this_house_prices, .int v_this_house_narrow, .int v_this_house_names])), (a_this_house_merchants, .inr (8, [.int (2 : Int32), .int (10 : Int32), .ref a_this_house_merchants_cells, .int v_this_house_merchants_rows])), (a_this_pairs, .inl (cJ, 100, .inr (.inl v_this_pairs))), (a_this_ring, .inl (cI, 10, .inl res.2.1)), (a_this_steps, .inl (cI, 10, .inl res.2.2))] := by
  unfold F_X4_layRing at h
  refine ii_metI (own := RX4) (lv0 := [(0, .ref a_this)]) (by decide) rfl rfl rfl (Nat.le_of_ble_eq_true rfl) (fun {p e s m args below meth c A Q} hQ => ?_)
  refine ii_iconst dX4_layRing_0 kc0 ?_
  refine ii_istore_n (lv' := [(1, .int (0 : Int32)), (0, .ref a_this)]) dX4_layRing_1 rfl (by decide) rfl ?_
  refine ii_iconst dX4_layRing_2 kc0 ?_
  refine ii_istore_n (lv' := [(2, .int (0 : Int32)), (1, .int (0 : Int32)), (0, .ref a_this)]) dX4_layRing_3 rfl (by decide) rfl ?_
  refine ii_lv [2, 1, 0] rfl ?_
  obtain ⟨x_2, hl_1, h⟩ := bnd h
  refine ii_loopX (fun s_1 => [(a_this, .inr (4, [.ref a_this_house, .ref a_this_ledger, .ref a_this_balances, .ref a_this_pairs, .ref a_this_uneven, .ref a_this_sums, .ref a_this_sets, .ref a_this_steps, .ref a_this_ring])), (a_this_house, .inr (0, [.ref a_this_house_merchants, .ref a_this_house_texts, .ref a_this_house_acts, .ref a_this_house_debts, .ref a_this_house_payments, .ref a_this_house_purses, .ref a_this_house_gates, .ref a_this_house_stones, .ref a_this_house_told, .ref a_this_house_letters, .ref a_this_house_mentions, .ref a_this_house_loads, .ref a_this_house_prices, .int v_this_house_narrow, .int v_this_house_names])), (a_this_house_merchants, .inr (8, [.int (2 : Int32), .int (10 : Int32), .ref a_this_house_merchants_cells, .int v_this_house_merchants_rows])), (a_this_pairs, .inl (cJ, 100, .inr (.inl v_this_pairs))), (a_this_ring, .inl (cI, 10, .inl s_1.2.2.1)), (a_this_steps, .inl (cI, 10, .inl s_1.2.2.2))]) (fun s_1 => [(0, .ref a_this), (1, .int s_1.1), (2, .int s_1.2.1)]) (fun x_2 => [(a_this, .inr (4, [.ref a_this_house, .ref a_this_ledger, .ref a_this_balances, .ref a_this_pairs, .ref a_this_uneven, .ref a_this_sums, .ref a_this_sets, .ref a_this_steps, .ref a_this_ring])), (a_this_house, .inr (0, [.ref a_this_house_merchants, .ref a_this_house_texts, .ref a_this_house_acts, .ref a_this_house_debts, .ref a_this_house_payments, .ref a_this_house_purses, .ref a_this_house_gates, .ref a_this_house_stones, .ref a_this_house_told, .ref a_this_house_letters, .ref a_this_house_mentions, .ref a_this_house_loads, .ref a_this_house_prices, .int v_this_house_narrow, .int v_this_house_names])), (a_this_house_merchants, .inr (8, [.int (2 : Int32), .int (10 : Int32), .ref a_this_house_merchants_cells, .int v_this_house_merchants_rows])), (a_this_pairs, .inl (cJ, 100, .inr (.inl v_this_pairs))), (a_this_ring, .inl (cI, 10, .inl x_2.2.2.1)), (a_this_steps, .inl (cI, 10, .inl x_2.2.2.2))]) (fun x_2 => [(1, .int x_2.1)]) 51 hl_1 rfl rfl ?_ (fun s_1 o h hb_1 hr_1 hx_1 => ?_)
  · skip
    refine ii_iload_n 0 dX4_layRing_51 rfl ?_
    cases h
    exact hQ _ _ dX4_layRing_52
  · skip
    refine ii_iload_n 2 dX4_layRing_4 rfl ?_
    refine ii_aload_n 0 dX4_layRing_5 rfl ?_
    refine ii_get (C := RX4) (T := TX4) (N := 9) (ci := 4) izX4 0 rfl rfl 0 (by decide) kX4_34 rfl dX4_layRing_6 ?_
    refine ii_get (C := RX0) (T := TX0) (N := 15) (ci := 0) izX0 1 rfl rfl 0 (by decide) kX4_90 rfl dX4_layRing_9 ?_
    refine ii_get (C := RX8) (T := TX8) (N := 4) (ci := 8) izX8 2 rfl rfl 3 (by decide) kX4_54 rfl dX4_layRing_12 ?_
    refine ii_icmp_ge (tgt := 51) h dX4_layRing_15 (by decide) (fun h => ?_) (fun h => ?_)
    · skip
      refine ii_lv [1] rfl ?_
      cases h
      exact hx_1 (s_1.1, s_1.2.1, s_1.2.2.1, s_1.2.2.2) (hr_1 _ rfl)
    · skip
      refine ii_aload_n 0 dX4_layRing_18 rfl ?_
      refine ii_iload_n 2 dX4_layRing_19 rfl ?_
      obtain ⟨c_3, hc_3, h⟩ := bnd h
      refine ii_callVi (As := [.int s_1.2.1]) (ws' := [(a_this, .inr (4, [.ref a_this_house, .ref a_this_ledger, .ref a_this_balances, .ref a_this_pairs, .ref a_this_uneven, .ref a_this_sums, .ref a_this_sets, .ref a_this_steps, .ref a_this_ring])), (a_this_house, .inr (0, [.ref a_this_house_merchants, .ref a_this_house_texts, .ref a_this_house_acts, .ref a_this_house_debts, .ref a_this_house_payments, .ref a_this_house_purses, .ref a_this_house_gates, .ref a_this_house_stones, .ref a_this_house_told, .ref a_this_house_letters, .ref a_this_house_mentions, .ref a_this_house_loads, .ref a_this_house_prices, .int v_this_house_narrow, .int v_this_house_names])), (a_this_house_merchants, .inr (8, [.int (2 : Int32), .int (10 : Int32), .ref a_this_house_merchants_cells, .int v_this_house_merchants_rows])), (a_this_pairs, .inl (cJ, 100, .inr (.inl v_this_pairs))), (a_this_ring, .inl (cI, 10, .inl s_1.2.2.1)), (a_this_steps, .inl (cI, 10, .inl c_3.2))]) (st := []) (c_X4_lengthFrom l D cI cJ cZ cH a_this a_this_balances a_this_house a_this_ledger a_this_pairs a_this_ring a_this_sets a_this_steps a_this_sums a_this_uneven v_this_pairs s_1.2.2.2 s_1.2.1 hc_3) gzX4_93 rfl rfl rfl eV_X4_lengthFrom ⟨Nat.le_of_ble_eq_true rfl, Nat.le_of_ble_eq_true rfl⟩ rfl 0 rfl rfl [0, 3, 5] rfl rfl rfl rfl rfl (Nat.le_of_ble_eq_true rfl) (Nat.le_refl _) (Nat.le_refl _) rfl dX4_layRing_20 ?_
      refine ii_istore_n (lv' := [(3, .int c_3.1), (0, .ref a_this), (1, .int s_1.1), (2, .int s_1.2.1)]) dX4_layRing_23 rfl (by decide) rfl ?_
      refine ii_iload_n 0 dX4_layRing_24 rfl ?_
      refine ii_jn h (fun j_4 => [(a_this, .inr (4, [.ref a_this_house, .ref a_this_ledger, .ref a_this_balances, .ref a_this_pairs, .ref a_this_uneven, .ref a_this_sums, .ref a_this_sets, .ref a_this_steps, .ref a_this_ring])), (a_this_house, .inr (0, [.ref a_this_house_merchants, .ref a_this_house_texts, .ref a_this_house_acts, .ref a_this_house_debts, .ref a_this_house_payments, .ref a_this_house_purses, .ref a_this_house_gates, .ref a_this_house_stones, .ref a_this_house_told, .ref a_this_house_letters, .ref a_this_house_mentions, .ref a_this_house_loads, .ref a_this_house_prices, .int v_this_house_narrow, .int v_this_house_names])), (a_this_house_merchants, .inr (8, [.int (2 : Int32), .int (10 : Int32), .ref a_this_house_merchants_cells, .int v_this_house_merchants_rows])), (a_this_pairs, .inl (cJ, 100, .inr (.inl v_this_pairs))), (a_this_ring, .inl (cI, 10, .inl j_4.2)), (a_this_steps, .inl (cI, 10, .inl c_3.2))]) (fun j_4 => [(0, .ref a_this), (1, .int j_4.1), (2, .int s_1.2.1)]) 45 (fun j_4 => []) (fun j_4 h => ?_) (fun j_4 h hjj_4 => ?_)
      · skip
        refine ii_iinc (fun x_7 => [(2, .int x_7), (0, .ref a_this), (1, .int j_4.1)]) h 2 dX4_layRing_45 rfl kc1 (by decide) (fun _ => rfl) (fun x_7 h => ?_)
        refine ii_goto (tgt := 4) dX4_layRing_48 (by decide) ?_
        refine ii_lv [1, 2, 0] rfl ?_
        cases h
        exact hb_1 (j_4.1, x_7, j_4.2, c_3.2) rfl
      · skip
        refine ii_if_le (tgt := 45) h dX4_layRing_25 (by decide) (fun h => ?_) (fun h => ?_)
        · skip
          refine ii_lv [1, 2, 3] rfl ?_
          cases h
          exact hjj_4
        · skip
          refine ii_iload_n 2 dX4_layRing_28 rfl ?_
          refine ii_jf (r := j_4) (J_X4_layRing_4_37 v_this_pairs s_1 c_3) (fun v_5 => [(a_this, .inr (4, [.ref a_this_house, .ref a_this_ledger, .ref a_this_balances, .ref a_this_pairs, .ref a_this_uneven, .ref a_this_sums, .ref a_this_sets, .ref a_this_steps, .ref a_this_ring])), (a_this_house, .inr (0, [.ref a_this_house_merchants, .ref a_this_house_texts, .ref a_this_house_acts, .ref a_this_house_debts, .ref a_this_house_payments, .ref a_this_house_purses, .ref a_this_house_gates, .ref a_this_house_stones, .ref a_this_house_told, .ref a_this_house_letters, .ref a_this_house_mentions, .ref a_this_house_loads, .ref a_this_house_prices, .int v_this_house_narrow, .int v_this_house_names])), (a_this_house_merchants, .inr (8, [.int (2 : Int32), .int (10 : Int32), .ref a_this_house_merchants_cells, .int v_this_house_merchants_rows])), (a_this_pairs, .inl (cJ, 100, .inr (.inl v_this_pairs))), (a_this_ring, .inl (cI, 10, .inl s_1.2.2.1)), (a_this_steps, .inl (cI, 10, .inl c_3.2))]) (fun v_5 => [(0, .ref a_this), (2, .int s_1.2.1), (3, .int c_3.1)]) 37 (fun v_5 => []) (fun v_5 h => ?_) (fun hjv_5 => ?_)
          · skip
            refine ii_iload_n 2 dX4_layRing_37 rfl ?_
            refine ii_istore_n (lv' := [(1, .int c_3.1), (0, .ref a_this), (2, .int s_1.2.1), (3, .int c_3.1)]) dX4_layRing_38 rfl (by decide) rfl ?_
            refine ii_aload_n 1 dX4_layRing_39 rfl ?_
            refine ii_iload_n 2 dX4_layRing_40 rfl ?_
            refine ii_iload_n 3 dX4_layRing_41 rfl ?_
            obtain ⟨c_6, hc_6, h⟩ := bnd h
            refine ii_callVv (As := [.int s_1.2.1, .int c_3.1]) (ws' := [(a_this, .inr (4, [.ref a_this_house, .ref a_this_ledger, .ref a_this_balances, .ref a_this_pairs, .ref a_this_uneven, .ref a_this_sums, .ref a_this_sets, .ref a_this_steps, .ref a_this_ring])), (a_this_house, .inr (0, [.ref a_this_house_merchants, .ref a_this_house_texts, .ref a_this_house_acts, .ref a_this_house_debts, .ref a_this_house_payments, .ref a_this_house_purses, .ref a_this_house_gates, .ref a_this_house_stones, .ref a_this_house_told, .ref a_this_house_letters, .ref a_this_house_mentions, .ref a_this_house_loads, .ref a_this_house_prices, .int v_this_house_narrow, .int v_this_house_names])), (a_this_house_merchants, .inr (8, [.int (2 : Int32), .int (10 : Int32), .ref a_this_house_merchants_cells, .int v_this_house_merchants_rows])), (a_this_pairs, .inl (cJ, 100, .inr (.inl v_this_pairs))), (a_this_ring, .inl (cI, 10, .inl c_6)), (a_this_steps, .inl (cI, 10, .inl c_3.2))]) (st := []) (c_X4_follow l D cI cJ cZ cH a_this a_this_balances a_this_house a_this_ledger a_this_pairs a_this_ring a_this_sets a_this_steps a_this_sums a_this_uneven v_this_pairs s_1.2.2.1 c_3.2 s_1.2.1 c_3.1 hc_6) gzX4_97 rfl rfl rfl eV_X4_follow ⟨Nat.le_of_ble_eq_true rfl, Nat.le_of_ble_eq_true rfl⟩ rfl 0 rfl rfl [0, 3, 4, 5] rfl rfl rfl rfl rfl (Nat.le_of_ble_eq_true rfl) (Nat.le_refl _) (Nat.le_refl _) rfl dX4_layRing_42 ?_
            refine ii_lv [1, 0, 2] rfl ?_
            cases h
            exact hjj_4
          · skip
            refine ii_if_eq (tgt := 37) h dX4_layRing_29 (by decide) (fun h => ?_) (fun h => ?_)
            · skip
              refine ii_lv [1, 3, 0] rfl ?_
              exact hjv_5 () h
            · skip
              refine ii_iload_n 0 dX4_layRing_32 rfl ?_
              refine ii_iload_n 2 dX4_layRing_33 rfl ?_
              refine ii_icmp_ge (tgt := 45) h dX4_layRing_34 (by decide) (fun h => ?_) (fun h => ?_)
              · skip
                refine ii_lv [1, 2, 3] rfl ?_
                cases h
                exact hjj_4
              · skip
                refine ii_lv [1, 3, 0] rfl ?_
                exact hjv_5 () h
set_option maxHeartbeats 4000000 in
set_option maxRecDepth 100000 in
theorem c_X4_inRing (l : Launch) (D : va_G) (cI cJ cZ cH : ClassId) (a_this a_this_balances a_this_house a_this_ledger a_this_pairs a_this_ring a_this_sets a_this_steps a_this_sums a_this_uneven : Nat) (v_this_ring : Nat → Int32) (p0 : Int32) {res : Int32} (h : F_X4_inRing v_this_ring p0 = some res) : CTi l yX4_inRing wzX4_inRing { frames := 0, cells := 0, slots := 0, locals := 0 } D [(cI, .int), (cJ, .long), (cZ, .boolean), (cH, .object "TinHouse$House")] [.ref a_this, .int p0] [(a_this, .inr (4, [.ref a_this_house, .ref a_this_ledger, .ref a_this_balances, .ref a_this_pairs, .ref a_this_uneven, .ref a_this_sums, .ref a_this_sets, .ref a_this_steps, .ref a_this_ring])), (a_this_ring, .inl (cI, 10, .inl v_this_ring))] res [(a_this, .inr (4, [.ref a_this_house, .ref a_this_ledger, .ref a_this_balances, .ref a_this_pairs, .ref a_this_uneven, .ref a_this_sums, .ref a_this_sets, .ref a_this_steps, .ref a_this_ring])), (a_this_ring, .inl (cI, 10, .inl v_this_ring))] := by
  unfold F_X4_inRing at h
  refine ii_metI (own := RX4) (lv0 := [(0, .ref a_this), (1, .int p0)]) (by decide) rfl rfl rfl (Nat.le_of_ble_eq_true rfl) (fun {p e s m args below meth c A Q} hQ => ?_)
  refine ii_iload_n 1 dX4_inRing_0 rfl ?_
  refine ii_jn h (fun j_1 => [(a_this, .inr (4, [.ref a_this_house, .ref a_this_ledger, .ref a_this_balances, .ref a_this_pairs, .ref a_this_uneven, .ref a_this_sums, .ref a_this_sets, .ref a_this_steps, .ref a_this_ring])), (a_this_ring, .inl (cI, 10, .inl v_this_ring))]) (fun j_1 => []) 23 (fun j_1 => [.int j_1]) (fun j_1 h => ?_) (fun j_1 h hjj_1 => ?_)
  · skip
    cases h
    exact hQ _ _ dX4_inRing_23
  · skip
    refine ii_if_lt (tgt := 22) h dX4_inRing_1 (by decide) (fun h => ?_) (fun h => ?_)
    · skip
      refine ii_iconst dX4_inRing_22 kcm1 ?_
      refine ii_lv [] rfl ?_
      cases h
      exact hjj_1
    · skip
      refine ii_iload_n 1 dX4_inRing_4 rfl ?_
      refine ii_aload_n 0 dX4_inRing_5 rfl ?_
      refine ii_get (C := RX4) (T := TX4) (N := 9) (ci := 4) izX4 0 rfl rfl 8 (by decide) kX4_31 rfl dX4_inRing_6 ?_
      refine ii_alen (v := (10 : Int32)) 1 0 rfl rfl rfl dX4_inRing_9 ?_
      refine ii_icmp_ge (tgt := 22) h dX4_inRing_10 (by decide) (fun h => ?_) (fun h => ?_)
      · skip
        refine ii_iconst dX4_inRing_22 kcm1 ?_
        refine ii_lv [] rfl ?_
        cases h
        exact hjj_1
      · skip
        refine ii_aload_n 0 dX4_inRing_13 rfl ?_
        refine ii_get (C := RX4) (T := TX4) (N := 9) (ci := 4) izX4 0 rfl rfl 8 (by decide) kX4_31 rfl dX4_inRing_14 ?_
        refine ii_iload_n 1 dX4_inRing_17 rfl ?_
        refine ii_iald h 1 0 rfl rfl dX4_inRing_18 (fun t_2 h => ?_)
        refine ii_goto (tgt := 23) dX4_inRing_19 (by decide) ?_
        refine ii_lv [] rfl ?_
        cases h
        exact hjj_1
set_option maxHeartbeats 4000000 in
set_option maxRecDepth 100000 in
theorem c_X5_setSilver (l : Launch) (D : va_G) (cI cJ cZ cH : ClassId) (a_this a_this_house a_this_house_acts a_this_house_debts a_this_house_gates a_this_house_letters a_this_house_loads a_this_house_loads_cells a_this_house_mentions a_this_house_merchants a_this_house_payments a_this_house_prices a_this_house_prices_cells a_this_house_purses a_this_house_stones a_this_house_texts a_this_house_told a_this_silver a_this_ways : Nat) (v_this_best : Int64) (v_this_bestPlan : Int32) (v_this_house_loads_cells : Nat → Int32) (v_this_house_loads_rows : Int32) (v_this_house_names : Int32) (v_this_house_narrow : Int32) (v_this_house_prices_cells : Nat → Int32) (v_this_house_prices_rows : Int32) (v_this_silver : Nat → Int64) (p0 : Int32) (p1 : Int32) (p2 : Int64) {res : (Nat → Int64)} (h : F_X5_setSilver v_this_house_loads_cells v_this_house_loads_rows v_this_house_prices_cells v_this_house_prices_rows v_this_silver p0 p1 p2 = some res) : CTv l yX5_setSilver wzX5_setSilver { frames := 2, cells := 0, slots := 0, locals := 46 } D [(cI, .int), (cJ, .long), (cZ, .boolean), (cH, .object "TinHouse$House")] [.ref a_this, .int p0, .int p1, .long p2] [(a_this, .inr (5, [.long v_this_best, .int v_this_bestPlan, .ref a_this_house, .ref a_this_ways, .ref a_this_silver])), (a_this_house, .inr (0, [.ref a_this_house_merchants, .ref a_this_house_texts, .ref a_this_house_acts, .ref a_this_house_debts, .ref a_this_house_payments, .ref a_this_house_purses, .ref a_this_house_gates, .ref a_this_house_stones, .ref a_this_house_told, .ref a_this_house_letters, .ref a_this_house_mentions, .ref a_this_house_loads, .ref a_this_house_prices, .int v_this_house_narrow, .int v_this_house_names])), (a_this_house_loads, .inr (8, [.int (3 : Int32), .int (6 : Int32), .ref a_this_house_loads_cells, .int v_this_house_loads_rows])), (a_this_house_loads_cells, .inl (cI, 18, .inl v_this_house_loads_cells)), (a_this_house_prices, .inr (8, [.int (3 : Int32), .int (1 : Int32), .ref a_this_house_prices_cells, .int v_this_house_prices_rows])), (a_this_house_prices_cells, .inl (cI, 3, .inl v_this_house_prices_cells)), (a_this_silver, .inl (cJ, 54, .inr (.inl v_this_silver)))] [(a_this, .inr (5, [.long v_this_best, .int v_this_bestPlan, .ref a_this_house, .ref a_this_ways, .ref a_this_silver])), (a_this_house, .inr (0, [.ref a_this_house_merchants, .ref a_this_house_texts, .ref a_this_house_acts, .ref a_this_house_debts, .ref a_this_house_payments, .ref a_this_house_purses, .ref a_this_house_gates, .ref a_this_house_stones, .ref a_this_house_told, .ref a_this_house_letters, .ref a_this_house_mentions, .ref a_this_house_loads, .ref a_this_house_prices, .int v_this_house_narrow, .int v_this_house_names])), (a_this_house_loads, .inr (8, [.int (3 : Int32), .int (6 : Int32), .ref a_this_house_loads_cells, .int v_this_house_loads_rows])), (a_this_house_loads_cells, .inl (cI, 18, .inl v_this_house_loads_cells)), (a_this_house_prices, .inr (8, [.int (3 : Int32), .int (1 : Int32), .ref a_this_house_prices_cells, .int v_this_house_prices_rows])), (a_this_house_prices_cells, .inl (cI, 3, .inl v_this_house_prices_cells)), (a_this_silver, .inl (cJ, 54, .inr (.inl res)))] := by
  unfold F_X5_setSilver at h
  refine ii_metV (own := RX5) (lv0 := [(0, .ref a_this), (1, .int p0), (2, .int p1), (3, .long p2)]) (by decide) rfl rfl rfl (Nat.le_of_ble_eq_true rfl) (fun {p e s m args below meth c A Q} hQ => ?_)
  refine ii_iconst dX5_setSilver_0 kc0 ?_
  refine ii_istore (lv' := [(5, .int (0 : Int32)), (0, .ref a_this), (1, .int p0), (2, .int p1), (3, .long p2)]) dX5_setSilver_1 (by decide) rfl ?_
  refine ii_lv [1, 2, 3, 4, 0] rfl ?_
  obtain ⟨x_2, hl_1, h⟩ := bnd h
  refine ii_loopX (fun s_1 => [(a_this, .inr (5, [.long v_this_best, .int v_this_bestPlan, .ref a_this_house, .ref a_this_ways, .ref a_this_silver])), (a_this_house, .inr (0, [.ref a_this_house_merchants, .ref a_this_house_texts, .ref a_this_house_acts, .ref a_this_house_debts, .ref a_this_house_payments, .ref a_this_house_purses, .ref a_this_house_gates, .ref a_this_house_stones, .ref a_this_house_told, .ref a_this_house_letters, .ref a_this_house_mentions, .ref a_this_house_loads, .ref a_this_house_prices, .int v_this_house_narrow, .int v_this_house_names])), (a_this_house_loads, .inr (8, [.int (3 : Int32), .int (6 : Int32), .ref a_this_house_loads_cells, .int v_this_house_loads_rows])), (a_this_house_loads_cells, .inl (cI, 18, .inl v_this_house_loads_cells)), (a_this_house_prices, .inr (8, [.int (3 : Int32), .int (1 : Int32), .ref a_this_house_prices_cells, .int v_this_house_prices_rows])), (a_this_house_prices_cells, .inl (cI, 3, .inl v_this_house_prices_cells)), (a_this_silver, .inl (cJ, 54, .inr (.inl s_1.2)))]) (fun s_1 => [(0, .ref a_this), (1, .int p0), (2, .int p1), (3, .long p2), (5, .int s_1.1)]) (fun x_2 => [(a_this, .inr (5, [.long v_this_best, .int v_this_bestPlan, .ref a_this_house, .ref a_this_ways, .ref a_this_silver])), (a_this_house, .inr (0, [.ref a_this_house_merchants, .ref a_this_house_texts, .ref a_this_house_acts, .ref a_this_house_debts, .ref a_this_house_payments, .ref a_this_house_purses, .ref a_this_house_gates, .ref a_this_house_stones, .ref a_this_house_told, .ref a_this_house_letters, .ref a_this_house_mentions, .ref a_this_house_loads, .ref a_this_house_prices, .int v_this_house_narrow, .int v_this_house_names])), (a_this_house_loads, .inr (8, [.int (3 : Int32), .int (6 : Int32), .ref a_this_house_loads_cells, .int v_this_house_loads_rows])), (a_this_house_loads_cells, .inl (cI, 18, .inl v_this_house_loads_cells)), (a_this_house_prices, .inr (8, [.int (3 : Int32), .int (1 : Int32), .ref a_this_house_prices_cells, .int v_this_house_prices_rows])), (a_this_house_prices_cells, .inl (cI, 3, .inl v_this_house_prices_cells)), (a_this_silver, .inl (cJ, 54, .inr (.inl x_2.2)))]) (fun x_2 => []) 96 hl_1 rfl rfl ?_ (fun s_1 o h hb_1 hr_1 hx_1 => ?_)
  · skip
    cases h
    exact hQ _ _ dX5_setSilver_96
  · skip
    refine ii_iload 4 dX5_setSilver_3 rfl ?_
    refine ii_iconst dX5_setSilver_5 kc3 ?_
    refine ii_icmp_ge (tgt := 96) h dX5_setSilver_6 (by decide) (fun h => ?_) (fun h => ?_)
    · skip
      refine ii_lv [] rfl ?_
      cases h
      exact hx_1 (s_1.1, s_1.2) (hr_1 _ rfl)
    · skip
      refine ii_lload_n 3 dX5_setSilver_9 rfl ?_
      refine ii_aload_n 0 dX5_setSilver_10 rfl ?_
      refine ii_get (C := RX5) (T := TX5) (N := 5) (ci := 5) izX5 0 rfl rfl 2 (by decide) kX5_15 rfl dX5_setSilver_11 ?_
      refine ii_get (C := RX0) (T := TX0) (N := 15) (ci := 0) izX0 1 rfl rfl 12 (by decide) kX5_53 rfl dX5_setSilver_14 ?_
      refine ii_iconst dX5_setSilver_17 kc0 ?_
      refine ii_iload 4 dX5_setSilver_18 rfl ?_
      obtain ⟨c_3, hc_3, h⟩ := bnd h
      refine ii_callVi (As := [.int (0 : Int32), .int s_1.1]) (ws' := [(a_this, .inr (5, [.long v_this_best, .int v_this_bestPlan, .ref a_this_house, .ref a_this_ways, .ref a_this_silver])), (a_this_house, .inr (0, [.ref a_this_house_merchants, .ref a_this_house_texts, .ref a_this_house_acts, .ref a_this_house_debts, .ref a_this_house_payments, .ref a_this_house_purses, .ref a_this_house_gates, .ref a_this_house_stones, .ref a_this_house_told, .ref a_this_house_letters, .ref a_this_house_mentions, .ref a_this_house_loads, .ref a_this_house_prices, .int v_this_house_narrow, .int v_this_house_names])), (a_this_house_loads, .inr (8, [.int (3 : Int32), .int (6 : Int32), .ref a_this_house_loads_cells, .int v_this_house_loads_rows])), (a_this_house_loads_cells, .inl (cI, 18, .inl v_this_house_loads_cells)), (a_this_house_prices, .inr (8, [.int (3 : Int32), .int (1 : Int32), .ref a_this_house_prices_cells, .int v_this_house_prices_rows])), (a_this_house_prices_cells, .inl (cI, 3, .inl v_this_house_prices_cells)), (a_this_silver, .inl (cJ, 54, .inr (.inl s_1.2)))]) (st := [.long p2]) (c_X8_get l D cI cJ cZ cH a_this_house_prices a_this_house_prices_cells 3 v_this_house_prices_cells (1 : Int32) v_this_house_prices_rows (3 : Int32) (0 : Int32) s_1.1 hc_3) gzX5_35 rfl rfl rfl eV_X8_get ⟨Nat.le_of_ble_eq_true rfl, Nat.le_of_ble_eq_true rfl⟩ rfl 4 rfl rfl [4, 5] rfl rfl rfl rfl rfl (Nat.le_of_ble_eq_true rfl) (Nat.le_refl _) (Nat.le_refl _) rfl dX5_setSilver_20 ?_
      refine ii_i2l dX5_setSilver_23 ?_
      refine ii_lmul dX5_setSilver_24 ?_
      refine ii_ldc2 (v := 100) dX5_setSilver_25 kX5_56 ?_
      refine ii_ldiv h dX5_setSilver_28 (fun t_4 h => ?_)
      refine ii_aload_n 0 dX5_setSilver_29 rfl ?_
      refine ii_get (C := RX5) (T := TX5) (N := 5) (ci := 5) izX5 0 rfl rfl 2 (by decide) kX5_15 rfl dX5_setSilver_30 ?_
      refine ii_get (C := RX0) (T := TX0) (N := 15) (ci := 0) izX0 1 rfl rfl 11 (by decide) kX5_23 rfl dX5_setSilver_33 ?_
      refine ii_iload_n 1 dX5_setSilver_36 rfl ?_
      refine ii_iconst dX5_setSilver_37 kc2 ?_
      obtain ⟨c_5, hc_5, h⟩ := bnd h
      refine ii_callVi (As := [.int p0, .int (2 : Int32)]) (ws' := [(a_this, .inr (5, [.long v_this_best, .int v_this_bestPlan, .ref a_this_house, .ref a_this_ways, .ref a_this_silver])), (a_this_house, .inr (0, [.ref a_this_house_merchants, .ref a_this_house_texts, .ref a_this_house_acts, .ref a_this_house_debts, .ref a_this_house_payments, .ref a_this_house_purses, .ref a_this_house_gates, .ref a_this_house_stones, .ref a_this_house_told, .ref a_this_house_letters, .ref a_this_house_mentions, .ref a_this_house_loads, .ref a_this_house_prices, .int v_this_house_narrow, .int v_this_house_names])), (a_this_house_loads, .inr (8, [.int (3 : Int32), .int (6 : Int32), .ref a_this_house_loads_cells, .int v_this_house_loads_rows])), (a_this_house_loads_cells, .inl (cI, 18, .inl v_this_house_loads_cells)), (a_this_house_prices, .inr (8, [.int (3 : Int32), .int (1 : Int32), .ref a_this_house_prices_cells, .int v_this_house_prices_rows])), (a_this_house_prices_cells, .inl (cI, 3, .inl v_this_house_prices_cells)), (a_this_silver, .inl (cJ, 54, .inr (.inl s_1.2)))]) (st := [.long t_4]) (c_X8_get l D cI cJ cZ cH a_this_house_loads a_this_house_loads_cells 18 v_this_house_loads_cells (6 : Int32) v_this_house_loads_rows (3 : Int32) p0 (2 : Int32) hc_5) gzX5_35 rfl rfl rfl eV_X8_get ⟨Nat.le_of_ble_eq_true rfl, Nat.le_of_ble_eq_true rfl⟩ rfl 2 rfl rfl [2, 3] rfl rfl rfl rfl rfl (Nat.le_of_ble_eq_true rfl) (Nat.le_refl _) (Nat.le_refl _) rfl dX5_setSilver_38 ?_
      refine ii_i2l dX5_setSilver_41 ?_
      refine ii_lsub dX5_setSilver_42 ?_
      refine ii_topL h (fun x_6 h => ?_)
      refine ii_lstore (lv' := [(6, .long x_6), (0, .ref a_this), (1, .int p0), (2, .int p1), (3, .long p2), (5, .int s_1.1)]) dX5_setSilver_43 (by decide) rfl ?_
      refine ii_iload_n 2 dX5_setSilver_45 rfl ?_
      refine ii_iconst dX5_setSilver_46 kc3 ?_
      refine ii_imul dX5_setSilver_47 ?_
      refine ii_iload_n 3 dX5_setSilver_48 rfl ?_
      refine ii_iadd dX5_setSilver_49 ?_
      refine ii_iconst dX5_setSilver_50 kc3 ?_
      refine ii_imul dX5_setSilver_51 ?_
      refine ii_iload 5 dX5_setSilver_52 rfl ?_
      refine ii_iadd dX5_setSilver_54 ?_
      refine ii_topI h (fun x_7 h => ?_)
      refine ii_istore (lv' := [(8, .int x_7), (6, .long x_6), (0, .ref a_this), (1, .int p0), (2, .int p1), (3, .long p2), (5, .int s_1.1)]) dX5_setSilver_55 (by decide) rfl ?_
      refine ii_iload 0 dX5_setSilver_57 rfl ?_
      refine ii_jn h (fun j_8 => [(a_this, .inr (5, [.long v_this_best, .int v_this_bestPlan, .ref a_this_house, .ref a_this_ways, .ref a_this_silver])), (a_this_house, .inr (0, [.ref a_this_house_merchants, .ref a_this_house_texts, .ref a_this_house_acts, .ref a_this_house_debts, .ref a_this_house_payments, .ref a_this_house_purses, .ref a_this_house_gates, .ref a_this_house_stones, .ref a_this_house_told, .ref a_this_house_letters, .ref a_this_house_mentions, .ref a_this_house_loads, .ref a_this_house_prices, .int v_this_house_narrow, .int v_this_house_names])), (a_this_house_loads, .inr (8, [.int (3 : Int32), .int (6 : Int32), .ref a_this_house_loads_cells, .int v_this_house_loads_rows])), (a_this_house_loads_cells, .inl (cI, 18, .inl v_this_house_loads_cells)), (a_this_house_prices, .inr (8, [.int (3 : Int32), .int (1 : Int32), .ref a_this_house_prices_cells, .int v_this_house_prices_rows])), (a_this_house_prices_cells, .inl (cI, 3, .inl v_this_house_prices_cells)), (a_this_silver, .inl (cJ, 54, .inr (.inl j_8)))]) (fun j_8 => [(0, .ref a_this), (1, .int p0), (2, .int p1), (3, .long p2), (5, .int s_1.1)]) 90 (fun j_8 => []) (fun j_8 h => ?_) (fun j_8 h hjj_8 => ?_)
      · skip
        refine ii_iinc (fun x_11 => [(5, .int x_11), (0, .ref a_this), (1, .int p0), (2, .int p1), (3, .long p2)]) h 4 dX5_setSilver_90 rfl kc1 (by decide) (fun _ => rfl) (fun x_11 h => ?_)
        refine ii_goto (tgt := 3) dX5_setSilver_93 (by decide) ?_
        refine ii_lv [1, 2, 3, 4, 0] rfl ?_
        cases h
        exact hb_1 (x_11, j_8) rfl
      · skip
        refine ii_if_lt (tgt := 90) h dX5_setSilver_59 (by decide) (fun h => ?_) (fun h => ?_)
        · skip
          refine ii_lv [2, 3, 4, 5, 6] rfl ?_
          cases h
          exact hjj_8
        · skip
          refine ii_iload 0 dX5_setSilver_62 rfl ?_
          refine ii_aload_n 2 dX5_setSilver_64 rfl ?_
          refine ii_get (C := RX5) (T := TX5) (N := 5) (ci := 5) izX5 0 rfl rfl 4 (by decide) kX5_9 rfl dX5_setSilver_65 ?_
          refine ii_alen (v := (54 : Int32)) 6 1 rfl rfl rfl dX5_setSilver_68 ?_
          refine ii_icmp_ge (tgt := 90) h dX5_setSilver_69 (by decide) (fun h => ?_) (fun h => ?_)
          · skip
            refine ii_lv [2, 3, 4, 5, 6] rfl ?_
            cases h
            exact hjj_8
          · skip
            refine ii_aload_n 2 dX5_setSilver_72 rfl ?_
            refine ii_get (C := RX5) (T := TX5) (N := 5) (ci := 5) izX5 0 rfl rfl 4 (by decide) kX5_9 rfl dX5_setSilver_73 ?_
            refine ii_iload 0 dX5_setSilver_76 rfl ?_
            refine ii_iload_n 4 dX5_setSilver_78 rfl ?_
            refine ii_iconst dX5_setSilver_79 kc2 ?_
            refine ii_jn h (fun j_9 => [(a_this, .inr (5, [.long v_this_best, .int v_this_bestPlan, .ref a_this_house, .ref a_this_ways, .ref a_this_silver])), (a_this_house, .inr (0, [.ref a_this_house_merchants, .ref a_this_house_texts, .ref a_this_house_acts, .ref a_this_house_debts, .ref a_this_house_payments, .ref a_this_house_purses, .ref a_this_house_gates, .ref a_this_house_stones, .ref a_this_house_told, .ref a_this_house_letters, .ref a_this_house_mentions, .ref a_this_house_loads, .ref a_this_house_prices, .int v_this_house_narrow, .int v_this_house_names])), (a_this_house_loads, .inr (8, [.int (3 : Int32), .int (6 : Int32), .ref a_this_house_loads_cells, .int v_this_house_loads_rows])), (a_this_house_loads_cells, .inl (cI, 18, .inl v_this_house_loads_cells)), (a_this_house_prices, .inr (8, [.int (3 : Int32), .int (1 : Int32), .ref a_this_house_prices_cells, .int v_this_house_prices_rows])), (a_this_house_prices_cells, .inl (cI, 3, .inl v_this_house_prices_cells)), (a_this_silver, .inl (cJ, 54, .inr (.inl s_1.2)))]) (fun j_9 => [(0, .ref a_this), (1, .int p0), (2, .int p1), (3, .long p2), (5, .int s_1.1)]) 89 (fun j_9 => [.long j_9, .int x_7, .ref a_this_silver]) (fun j_9 h => ?_) (fun j_9 h hjj_9 => ?_)
            · skip
              refine ii_last (fun g_10 => [(a_this, .inr (5, [.long v_this_best, .int v_this_bestPlan, .ref a_this_house, .ref a_this_ways, .ref a_this_silver])), (a_this_house, .inr (0, [.ref a_this_house_merchants, .ref a_this_house_texts, .ref a_this_house_acts, .ref a_this_house_debts, .ref a_this_house_payments, .ref a_this_house_purses, .ref a_this_house_gates, .ref a_this_house_stones, .ref a_this_house_told, .ref a_this_house_letters, .ref a_this_house_mentions, .ref a_this_house_loads, .ref a_this_house_prices, .int v_this_house_narrow, .int v_this_house_names])), (a_this_house_loads, .inr (8, [.int (3 : Int32), .int (6 : Int32), .ref a_this_house_loads_cells, .int v_this_house_loads_rows])), (a_this_house_loads_cells, .inl (cI, 18, .inl v_this_house_loads_cells)), (a_this_house_prices, .inr (8, [.int (3 : Int32), .int (1 : Int32), .ref a_this_house_prices_cells, .int v_this_house_prices_rows])), (a_this_house_prices_cells, .inl (cI, 3, .inl v_this_house_prices_cells)), (a_this_silver, .inl (cJ, 54, .inr (.inl g_10)))]) h 6 1 rfl rfl dX5_setSilver_89 (fun _ => rfl) (fun g_10 h => ?_)
              cases h
              exact hjj_8
            · skip
              refine ii_icmp_ne (tgt := 87) h dX5_setSilver_80 (by decide) (fun h => ?_) (fun h => ?_)
              · skip
                refine ii_lload 1 dX5_setSilver_87 rfl ?_
                refine ii_lv [2, 3, 4, 5, 6] rfl ?_
                cases h
                exact hjj_9
              · skip
                refine ii_lconst dX5_setSilver_83 kl0 ?_
                refine ii_goto (tgt := 89) dX5_setSilver_84 (by decide) ?_
                refine ii_lv [2, 3, 4, 5, 6] rfl ?_
                cases h
                exact hjj_9
set_option maxHeartbeats 4000000 in
set_option maxRecDepth 100000 in
theorem c_X5_value (l : Launch) (D : va_G) (cI cJ cZ cH : ClassId) (a_this a_this_house a_this_house_acts a_this_house_acts_cells a_this_house_debts a_this_house_gates a_this_house_gates_cells a_this_house_letters a_this_house_loads a_this_house_loads_cells a_this_house_mentions a_this_house_merchants a_this_house_merchants_cells a_this_house_payments a_this_house_prices a_this_house_prices_cells a_this_house_purses a_this_house_stones a_this_house_texts a_this_house_told a_this_silver a_this_ways a_this_ways_law a_this_ways_law_stack : Nat) (v_this_best : Int64) (v_this_bestPlan : Int32) (v_this_house_acts_cells : Nat → Int32) (v_this_house_acts_rows : Int32) (v_this_house_gates_cells : Nat → Int32) (v_this_house_gates_rows : Int32) (v_this_house_loads_cells : Nat → Int32) (v_this_house_loads_rows : Int32) (v_this_house_merchants_cells : Nat → Int32) (v_this_house_merchants_rows : Int32) (v_this_house_names : Int32) (v_this_house_narrow : Int32) (v_this_house_prices_cells : Nat → Int32) (v_this_house_prices_rows : Int32) (v_this_silver : Nat → Int64) (v_this_ways_law_about : Int64) (v_this_ways_law_gate : Int32) (v_this_ways_law_height : Int32) (v_this_ways_law_kin : Int32) (v_this_ways_law_season : Int32) (v_this_ways_law_stack : Nat → Int64) (v_this_ways_law_town : Int32) (p0 : Int32) {res : (Nat → Int64) × Int64 × Int32 × Int32 × Int32 × Int32 × (Nat → Int64) × Int32} (h : F_X5_value v_this_house_acts_cells v_this_house_acts_rows v_this_house_gates_cells v_this_house_gates_rows v_this_house_loads_cells v_this_house_loads_rows v_this_house_merchants_cells v_this_house_merchants_rows v_this_house_narrow v_this_house_prices_cells v_this_house_prices_rows v_this_silver v_this_ways_law_about v_this_ways_law_gate v_this_ways_law_height v_this_ways_law_kin v_this_ways_law_season v_this_ways_law_stack v_this_ways_law_town p0 = some res) : CTv l yX5_value wzX5_value { frames := 5, cells := 0, slots := 0, locals := 137 } D [(cI, .int), (cJ, .long), (cZ, .boolean), (cH, .object "TinHouse$House")] [.ref a_this, .int p0] [(a_this, .inr (5, [.long v_this_best, .int v_this_bestPlan, .ref a_this_house, .ref a_this_ways, .ref a_this_silver])), (a_this_house, .inr (0, [.ref a_this_house_merchants, .ref a_this_house_texts, .ref a_this_house_acts, .ref a_this_house_debts, .ref a_this_house_payments, .ref a_this_house_purses, .ref a_this_house_gates, .ref a_this_house_stones, .ref a_this_house_told, .ref a_this_house_letters, .ref a_this_house_mentions, .ref a_this_house_loads, .ref a_this_house_prices, .int v_this_house_narrow, .int v_this_house_names])), (a_this_house_acts, .inr (8, [.int (104 : Int32), .int (16 : Int32), .ref a_this_house_acts_cells, .int v_this_house_acts_rows])), (a_this_house_acts_cells, .inl (cI, 1664, .inl v_this_house_acts_cells)), (a_this_house_gates, .inr (8, [.int (1 : Int32), .int (6 : Int32), .ref a_this_house_gates_cells, .int v_this_house_gates_rows])), (a_this_house_gates_cells, .inl (cI, 6, .inl v_this_house_gates_cells)), (a_this_house_loads, .inr (8, [.int (3 : Int32), .int (6 : Int32), .ref a_this_house_loads_cells, .int v_this_house_loads_rows])), (a_this_house_loads_cells, .inl (cI, 18, .inl v_this_house_loads_cells)), (a_this_house_merchants, .inr (8, [.int (2 : Int32), .int (10 : Int32), .ref a_this_house_merchants_cells, .int v_this_house_merchants_rows])), (a_this_house_merchants_cells, .inl (cI, 20, .inl v_this_house_merchants_cells)), (a_this_house_prices, .inr (8, [.int (3 : Int32), .int (1 : Int32), .ref a_this_house_prices_cells, .int v_this_house_prices_rows])), (a_this_house_prices_cells, .inl (cI, 3, .inl v_this_house_prices_cells)), (a_this_silver, .inl (cJ, 54, .inr (.inl v_this_silver))), (a_this_ways, .inr (9, [.ref a_this_house, .ref a_this_ways_law])), (a_this_ways_law, .inr (1, [.ref a_this_house, .ref a_this_ways_law_stack, .int v_this_ways_law_height, .int v_this_ways_law_gate, .int v_this_ways_law_kin, .int v_this_ways_law_town, .int v_this_ways_law_season, .long v_this_ways_law_about])), (a_this_ways_law_stack, .inl (cJ, 50, .inr (.inl v_this_ways_law_stack)))] [(a_this, .inr (5, [.long v_this_best, .int v_this_bestPlan, .ref a_this_house, .ref a_this_ways, .ref a_this_silver])), (a_this_house, .inr (0, [.ref a_this_house_merchants, .ref a_this_house_texts, .ref a_this_house_acts, .ref a_this_house_debts, .ref a_this_house_payments, .ref a_this_house_purses, .ref a_this_house_gates, .ref a_this_house_stones, .ref a_this_house_told, .ref a_this_house_letters, .ref a_this_house_mentions, .ref a_this_house_loads, .ref a_this_house_prices, .int v_this_house_narrow, .int v_this_house_names])), (a_this_house_acts, .inr (8, [.int (104 : Int32), .int (16 : Int32), .ref a_this_house_acts_cells, .int v_this_house_acts_rows])), (a_this_house_acts_cells, .inl (cI, 1664, .inl v_this_house_acts_cells)), (a_this_house_gates, .inr (8, [.int (1 : Int32), .int (6 : Int32), .ref a_this_house_gates_cells, .int v_this_house_gates_rows])), (a_this_house_gates_cells, .inl (cI, 6, .inl v_this_house_gates_cells)), (a_this_house_loads, .inr (8, [.int (3 : Int32), .int (6 : Int32), .ref a_this_house_loads_cells, .int v_this_house_loads_rows])), (a_this_house_loads_cells, .inl (cI, 18, .inl v_this_house_loads_cells)), (a_this_house_merchants, .inr (8, [.int (2 : Int32), .int (10 : Int32), .ref a_this_house_merchants_cells, .int v_this_house_merchants_rows])), (a_this_house_merchants_cells, .inl (cI, 20, .inl v_this_house_merchants_cells)), (a_this_house_prices, .inr (8, [.int (3 : Int32), .int (1 : Int32), .ref a_this_house_prices_cells, .int v_this_house_prices_rows])), (a_this_house_prices_cells, .inl (cI, 3, .inl v_this_house_prices_cells)), (a_this_silver, .inl (cJ, 54, .inr (.inl res.1))), (a_this_ways, .inr (9, [.ref a_this_house, .ref a_this_ways_law])), (a_this_ways_law, .inr (1, [.ref a_this_house, .ref a_this_ways_law_stack, .int res.2.2.2.1, .int res.2.2.1, .int res.2.2.2.2.1, .int res.2.2.2.2.2.2.2, .int res.2.2.2.2.2.1, .long res.2.1])), (a_this_ways_law_stack, .inl (cJ, 50, .inr (.inl res.2.2.2.2.2.2.1)))] := by
  unfold F_X5_value at h
  refine ii_metV (own := RX5) (lv0 := [(0, .ref a_this), (1, .int p0)]) (by decide) rfl rfl rfl (Nat.le_of_ble_eq_true rfl) (fun {p e s m args below meth c A Q} hQ => ?_)
  refine ii_iconst dX5_value_0 kc0 ?_
  refine ii_istore_n (lv' := [(2, .int (0 : Int32)), (0, .ref a_this), (1, .int p0)]) dX5_value_1 rfl (by decide) rfl ?_
  refine ii_lv [1, 2, 0] rfl ?_
  obtain ⟨x_2, hl_1, h⟩ := bnd h
  refine ii_loopX (fun s_1 => [(a_this, .inr (5, [.long v_this_best, .int v_this_bestPlan, .ref a_this_house, .ref a_this_ways, .ref a_this_silver])), (a_this_house, .inr (0, [.ref a_this_house_merchants, .ref a_this_house_texts, .ref a_this_house_acts, .ref a_this_house_debts, .ref a_this_house_payments, .ref a_this_house_purses, .ref a_this_house_gates, .ref a_this_house_stones, .ref a_this_house_told, .ref a_this_house_letters, .ref a_this_house_mentions, .ref a_this_house_loads, .ref a_this_house_prices, .int v_this_house_narrow, .int v_this_house_names])), (a_this_house_acts, .inr (8, [.int (104 : Int32), .int (16 : Int32), .ref a_this_house_acts_cells, .int v_this_house_acts_rows])), (a_this_house_acts_cells, .inl (cI, 1664, .inl v_this_house_acts_cells)), (a_this_house_gates, .inr (8, [.int (1 : Int32), .int (6 : Int32), .ref a_this_house_gates_cells, .int v_this_house_gates_rows])), (a_this_house_gates_cells, .inl (cI, 6, .inl v_this_house_gates_cells)), (a_this_house_loads, .inr (8, [.int (3 : Int32), .int (6 : Int32), .ref a_this_house_loads_cells, .int v_this_house_loads_rows])), (a_this_house_loads_cells, .inl (cI, 18, .inl v_this_house_loads_cells)), (a_this_house_merchants, .inr (8, [.int (2 : Int32), .int (10 : Int32), .ref a_this_house_merchants_cells, .int v_this_house_merchants_rows])), (a_this_house_merchants_cells, .inl (cI, 20, .inl v_this_house_merchants_cells)), (a_this_house_prices, .inr (8, [.int (3 : Int32), .int (1 : Int32), .ref a_this_house_prices_cells, .int v_this_house_prices_rows])), (a_this_house_prices_cells, .inl (cI, 3, .inl v_this_house_prices_cells)), (a_this_silver, .inl (cJ, 54, .inr (.inl s_1.2.1))), (a_this_ways, .inr (9, [.ref a_this_house, .ref a_this_ways_law])), (a_this_ways_law, .inr (1, [.ref a_this_house, .ref a_this_ways_law_stack, .int s_1.2.2.2.2.1, .int s_1.2.2.2.1, .int s_1.2.2.2.2.2.1, .int s_1.2.2.2.2.2.2.2.2, .int s_1.2.2.2.2.2.2.1, .long s_1.2.2.1])), (a_this_ways_law_stack, .inl (cJ, 50, .inr (.inl s_1.2.2.2.2.2.2.2.1)))]) (fun s_1 => [(0, .ref a_this), (1, .int p0), (2, .int s_1.1)]) (fun x_2 => [(a_this, .inr (5, [.long v_this_best, .int v_this_bestPlan, .ref a_this_house, .ref a_this_ways, .ref a_this_silver])), (a_this_house, .inr (0, [.ref a_this_house_merchants, .ref a_this_house_texts, .ref a_this_house_acts, .ref a_this_house_debts, .ref a_this_house_payments, .ref a_this_house_purses, .ref a_this_house_gates, .ref a_this_house_stones, .ref a_this_house_told, .ref a_this_house_letters, .ref a_this_house_mentions, .ref a_this_house_loads, .ref a_this_house_prices, .int v_this_house_narrow, .int v_this_house_names])), (a_this_house_acts, .inr (8, [.int (104 : Int32), .int (16 : Int32), .ref a_this_house_acts_cells, .int v_this_house_acts_rows])), (a_this_house_acts_cells, .inl (cI, 1664, .inl v_this_house_acts_cells)), (a_this_house_gates, .inr (8, [.int (1 : Int32), .int (6 : Int32), .ref a_this_house_gates_cells, .int v_this_house_gates_rows])), (a_this_house_gates_cells, .inl (cI, 6, .inl v_this_house_gates_cells)), (a_this_house_loads, .inr (8, [.int (3 : Int32), .int (6 : Int32), .ref a_this_house_loads_cells, .int v_this_house_loads_rows])), (a_this_house_loads_cells, .inl (cI, 18, .inl v_this_house_loads_cells)), (a_this_house_merchants, .inr (8, [.int (2 : Int32), .int (10 : Int32), .ref a_this_house_merchants_cells, .int v_this_house_merchants_rows])), (a_this_house_merchants_cells, .inl (cI, 20, .inl v_this_house_merchants_cells)), (a_this_house_prices, .inr (8, [.int (3 : Int32), .int (1 : Int32), .ref a_this_house_prices_cells, .int v_this_house_prices_rows])), (a_this_house_prices_cells, .inl (cI, 3, .inl v_this_house_prices_cells)), (a_this_silver, .inl (cJ, 54, .inr (.inl x_2.2.1))), (a_this_ways, .inr (9, [.ref a_this_house, .ref a_this_ways_law])), (a_this_ways_law, .inr (1, [.ref a_this_house, .ref a_this_ways_law_stack, .int x_2.2.2.2.2.1, .int x_2.2.2.2.1, .int x_2.2.2.2.2.2.1, .int x_2.2.2.2.2.2.2.2.2, .int x_2.2.2.2.2.2.2.1, .long x_2.2.2.1])), (a_this_ways_law_stack, .inl (cJ, 50, .inr (.inl x_2.2.2.2.2.2.2.2.1)))]) (fun x_2 => []) 90 hl_1 rfl rfl ?_ (fun s_1 o h hb_1 hr_1 hx_1 => ?_)
  · skip
    cases h
    exact hQ _ _ dX5_value_90
  · skip
    refine ii_iload_n 2 dX5_value_2 rfl ?_
    refine ii_aload_n 0 dX5_value_3 rfl ?_
    refine ii_get (C := RX5) (T := TX5) (N := 5) (ci := 5) izX5 0 rfl rfl 2 (by decide) kX5_15 rfl dX5_value_4 ?_
    refine ii_get (C := RX0) (T := TX0) (N := 15) (ci := 0) izX0 1 rfl rfl 11 (by decide) kX5_23 rfl dX5_value_7 ?_
    refine ii_get (C := RX8) (T := TX8) (N := 4) (ci := 8) izX8 6 rfl rfl 3 (by decide) kX5_29 rfl dX5_value_10 ?_
    refine ii_icmp_ge (tgt := 90) h dX5_value_13 (by decide) (fun h => ?_) (fun h => ?_)
    · skip
      refine ii_lv [] rfl ?_
      cases h
      exact hx_1 (s_1.1, s_1.2.1, s_1.2.2.1, s_1.2.2.2.1, s_1.2.2.2.2.1, s_1.2.2.2.2.2.1, s_1.2.2.2.2.2.2.1, s_1.2.2.2.2.2.2.2.1, s_1.2.2.2.2.2.2.2.2) (hr_1 _ rfl)
    · skip
      refine ii_aload_n 0 dX5_value_16 rfl ?_
      refine ii_get (C := RX5) (T := TX5) (N := 5) (ci := 5) izX5 0 rfl rfl 2 (by decide) kX5_15 rfl dX5_value_17 ?_
      refine ii_get (C := RX0) (T := TX0) (N := 15) (ci := 0) izX0 1 rfl rfl 11 (by decide) kX5_23 rfl dX5_value_20 ?_
      refine ii_iload_n 2 dX5_value_23 rfl ?_
      refine ii_iconst dX5_value_24 kc0 ?_
      obtain ⟨c_3, hc_3, h⟩ := bnd h
      refine ii_callVi (As := [.int s_1.1, .int (0 : Int32)]) (ws' := [(a_this, .inr (5, [.long v_this_best, .int v_this_bestPlan, .ref a_this_house, .ref a_this_ways, .ref a_this_silver])), (a_this_house, .inr (0, [.ref a_this_house_merchants, .ref a_this_house_texts, .ref a_this_house_acts, .ref a_this_house_debts, .ref a_this_house_payments, .ref a_this_house_purses, .ref a_this_house_gates, .ref a_this_house_stones, .ref a_this_house_told, .ref a_this_house_letters, .ref a_this_house_mentions, .ref a_this_house_loads, .ref a_this_house_prices, .int v_this_house_narrow, .int v_this_house_names])), (a_this_house_acts, .inr (8, [.int (104 : Int32), .int (16 : Int32), .ref a_this_house_acts_cells, .int v_this_house_acts_rows])), (a_this_house_acts_cells, .inl (cI, 1664, .inl v_this_house_acts_cells)), (a_this_house_gates, .inr (8, [.int (1 : Int32), .int (6 : Int32), .ref a_this_house_gates_cells, .int v_this_house_gates_rows])), (a_this_house_gates_cells, .inl (cI, 6, .inl v_this_house_gates_cells)), (a_this_house_loads, .inr (8, [.int (3 : Int32), .int (6 : Int32), .ref a_this_house_loads_cells, .int v_this_house_loads_rows])), (a_this_house_loads_cells, .inl (cI, 18, .inl v_this_house_loads_cells)), (a_this_house_merchants, .inr (8, [.int (2 : Int32), .int (10 : Int32), .ref a_this_house_merchants_cells, .int v_this_house_merchants_rows])), (a_this_house_merchants_cells, .inl (cI, 20, .inl v_this_house_merchants_cells)), (a_this_house_prices, .inr (8, [.int (3 : Int32), .int (1 : Int32), .ref a_this_house_prices_cells, .int v_this_house_prices_rows])), (a_this_house_prices_cells, .inl (cI, 3, .inl v_this_house_prices_cells)), (a_this_silver, .inl (cJ, 54, .inr (.inl s_1.2.1))), (a_this_ways, .inr (9, [.ref a_this_house, .ref a_this_ways_law])), (a_this_ways_law, .inr (1, [.ref a_this_house, .ref a_this_ways_law_stack, .int s_1.2.2.2.2.1, .int s_1.2.2.2.1, .int s_1.2.2.2.2.2.1, .int s_1.2.2.2.2.2.2.2.2, .int s_1.2.2.2.2.2.2.1, .long s_1.2.2.1])), (a_this_ways_law_stack, .inl (cJ, 50, .inr (.inl s_1.2.2.2.2.2.2.2.1)))]) (st := []) (c_X8_get l D cI cJ cZ cH a_this_house_loads a_this_house_loads_cells 18 v_this_house_loads_cells (6 : Int32) v_this_house_loads_rows (3 : Int32) s_1.1 (0 : Int32) hc_3) gzX5_35 rfl rfl rfl eV_X8_get ⟨Nat.le_of_ble_eq_true rfl, Nat.le_of_ble_eq_true rfl⟩ rfl 6 rfl rfl [6, 7] rfl rfl rfl rfl rfl (Nat.le_of_ble_eq_true rfl) (Nat.le_refl _) (Nat.le_refl _) rfl dX5_value_25 ?_
      refine ii_istore_n (lv' := [(3, .int c_3), (0, .ref a_this), (1, .int p0), (2, .int s_1.1)]) dX5_value_28 rfl (by decide) rfl ?_
      refine ii_aload_n 1 dX5_value_29 rfl ?_
      refine ii_get (C := RX5) (T := TX5) (N := 5) (ci := 5) izX5 0 rfl rfl 2 (by decide) kX5_15 rfl dX5_value_30 ?_
      refine ii_get (C := RX0) (T := TX0) (N := 15) (ci := 0) izX0 1 rfl rfl 11 (by decide) kX5_23 rfl dX5_value_33 ?_
      refine ii_iload_n 3 dX5_value_36 rfl ?_
      refine ii_iconst dX5_value_37 kc1 ?_
      obtain ⟨c_4, hc_4, h⟩ := bnd h
      refine ii_callVi (As := [.int s_1.1, .int (1 : Int32)]) (ws' := [(a_this, .inr (5, [.long v_this_best, .int v_this_bestPlan, .ref a_this_house, .ref a_this_ways, .ref a_this_silver])), (a_this_house, .inr (0, [.ref a_this_house_merchants, .ref a_this_house_texts, .ref a_this_house_acts, .ref a_this_house_debts, .ref a_this_house_payments, .ref a_this_house_purses, .ref a_this_house_gates, .ref a_this_house_stones, .ref a_this_house_told, .ref a_this_house_letters, .ref a_this_house_mentions, .ref a_this_house_loads, .ref a_this_house_prices, .int v_this_house_narrow, .int v_this_house_names])), (a_this_house_acts, .inr (8, [.int (104 : Int32), .int (16 : Int32), .ref a_this_house_acts_cells, .int v_this_house_acts_rows])), (a_this_house_acts_cells, .inl (cI, 1664, .inl v_this_house_acts_cells)), (a_this_house_gates, .inr (8, [.int (1 : Int32), .int (6 : Int32), .ref a_this_house_gates_cells, .int v_this_house_gates_rows])), (a_this_house_gates_cells, .inl (cI, 6, .inl v_this_house_gates_cells)), (a_this_house_loads, .inr (8, [.int (3 : Int32), .int (6 : Int32), .ref a_this_house_loads_cells, .int v_this_house_loads_rows])), (a_this_house_loads_cells, .inl (cI, 18, .inl v_this_house_loads_cells)), (a_this_house_merchants, .inr (8, [.int (2 : Int32), .int (10 : Int32), .ref a_this_house_merchants_cells, .int v_this_house_merchants_rows])), (a_this_house_merchants_cells, .inl (cI, 20, .inl v_this_house_merchants_cells)), (a_this_house_prices, .inr (8, [.int (3 : Int32), .int (1 : Int32), .ref a_this_house_prices_cells, .int v_this_house_prices_rows])), (a_this_house_prices_cells, .inl (cI, 3, .inl v_this_house_prices_cells)), (a_this_silver, .inl (cJ, 54, .inr (.inl s_1.2.1))), (a_this_ways, .inr (9, [.ref a_this_house, .ref a_this_ways_law])), (a_this_ways_law, .inr (1, [.ref a_this_house, .ref a_this_ways_law_stack, .int s_1.2.2.2.2.1, .int s_1.2.2.2.1, .int s_1.2.2.2.2.2.1, .int s_1.2.2.2.2.2.2.2.2, .int s_1.2.2.2.2.2.2.1, .long s_1.2.2.1])), (a_this_ways_law_stack, .inl (cJ, 50, .inr (.inl s_1.2.2.2.2.2.2.2.1)))]) (st := []) (c_X8_get l D cI cJ cZ cH a_this_house_loads a_this_house_loads_cells 18 v_this_house_loads_cells (6 : Int32) v_this_house_loads_rows (3 : Int32) s_1.1 (1 : Int32) hc_4) gzX5_35 rfl rfl rfl eV_X8_get ⟨Nat.le_of_ble_eq_true rfl, Nat.le_of_ble_eq_true rfl⟩ rfl 6 rfl rfl [6, 7] rfl rfl rfl rfl rfl (Nat.le_of_ble_eq_true rfl) (Nat.le_refl _) (Nat.le_refl _) rfl dX5_value_38 ?_
      refine ii_istore (lv' := [(4, .int c_4), (3, .int c_3), (0, .ref a_this), (1, .int p0), (2, .int s_1.1)]) dX5_value_41 (by decide) rfl ?_
      refine ii_aload_n 2 dX5_value_43 rfl ?_
      refine ii_iload_n 4 dX5_value_44 rfl ?_
      refine ii_iconst dX5_value_45 kc0 ?_
      refine ii_aload_n 2 dX5_value_46 rfl ?_
      refine ii_get (C := RX5) (T := TX5) (N := 5) (ci := 5) izX5 0 rfl rfl 3 (by decide) kX5_19 rfl dX5_value_47 ?_
      refine ii_iload_n 1 dX5_value_50 rfl ?_
      refine ii_iload 0 dX5_value_51 rfl ?_
      refine ii_iload_n 3 dX5_value_53 rfl ?_
      obtain ⟨c_5, hc_5, h⟩ := bnd h
      refine ii_callVi (As := [.int c_3, .int c_4, .int p0]) (ws' := [(a_this, .inr (5, [.long v_this_best, .int v_this_bestPlan, .ref a_this_house, .ref a_this_ways, .ref a_this_silver])), (a_this_house, .inr (0, [.ref a_this_house_merchants, .ref a_this_house_texts, .ref a_this_house_acts, .ref a_this_house_debts, .ref a_this_house_payments, .ref a_this_house_purses, .ref a_this_house_gates, .ref a_this_house_stones, .ref a_this_house_told, .ref a_this_house_letters, .ref a_this_house_mentions, .ref a_this_house_loads, .ref a_this_house_prices, .int v_this_house_narrow, .int v_this_house_names])), (a_this_house_acts, .inr (8, [.int (104 : Int32), .int (16 : Int32), .ref a_this_house_acts_cells, .int v_this_house_acts_rows])), (a_this_house_acts_cells, .inl (cI, 1664, .inl v_this_house_acts_cells)), (a_this_house_gates, .inr (8, [.int (1 : Int32), .int (6 : Int32), .ref a_this_house_gates_cells, .int v_this_house_gates_rows])), (a_this_house_gates_cells, .inl (cI, 6, .inl v_this_house_gates_cells)), (a_this_house_loads, .inr (8, [.int (3 : Int32), .int (6 : Int32), .ref a_this_house_loads_cells, .int v_this_house_loads_rows])), (a_this_house_loads_cells, .inl (cI, 18, .inl v_this_house_loads_cells)), (a_this_house_merchants, .inr (8, [.int (2 : Int32), .int (10 : Int32), .ref a_this_house_merchants_cells, .int v_this_house_merchants_rows])), (a_this_house_merchants_cells, .inl (cI, 20, .inl v_this_house_merchants_cells)), (a_this_house_prices, .inr (8, [.int (3 : Int32), .int (1 : Int32), .ref a_this_house_prices_cells, .int v_this_house_prices_rows])), (a_this_house_prices_cells, .inl (cI, 3, .inl v_this_house_prices_cells)), (a_this_silver, .inl (cJ, 54, .inr (.inl s_1.2.1))), (a_this_ways, .inr (9, [.ref a_this_house, .ref a_this_ways_law])), (a_this_ways_law, .inr (1, [.ref a_this_house, .ref a_this_ways_law_stack, .int c_5.2.2.2.1, .int c_5.2.2.1, .int c_5.2.2.2.2.1, .int c_5.2.2.2.2.2.2.2, .int c_5.2.2.2.2.2.1, .long c_5.2.1])), (a_this_ways_law_stack, .inl (cJ, 50, .inr (.inl c_5.2.2.2.2.2.2.1)))]) (st := [.int (0 : Int32), .int s_1.1, .ref a_this]) (c_X9_leftByGates l D cI cJ cZ cH a_this_ways a_this_house a_this_house_acts a_this_house_acts_cells a_this_house_debts a_this_house_gates a_this_house_gates_cells a_this_house_letters a_this_house_loads a_this_house_mentions a_this_house_merchants a_this_house_merchants_cells a_this_house_payments a_this_house_prices a_this_house_purses a_this_house_stones a_this_house_texts a_this_house_told a_this_ways_law a_this_ways_law_stack v_this_house_acts_cells v_this_house_acts_rows v_this_house_gates_cells v_this_house_gates_rows v_this_house_merchants_cells v_this_house_merchants_rows v_this_house_names v_this_house_narrow s_1.2.2.1 s_1.2.2.2.1 s_1.2.2.2.2.1 s_1.2.2.2.2.2.1 s_1.2.2.2.2.2.2.1 s_1.2.2.2.2.2.2.2.1 s_1.2.2.2.2.2.2.2.2 c_3 c_4 p0 hc_5) gzX5_39 rfl rfl rfl eV_X9_leftByGates ⟨Nat.le_of_ble_eq_true rfl, Nat.le_of_ble_eq_true rfl⟩ rfl 13 rfl rfl [13, 1, 2, 3, 4, 5, 8, 9, 14, 15] rfl rfl rfl rfl rfl (Nat.le_of_ble_eq_true rfl) (Nat.le_refl _) (Nat.le_refl _) rfl dX5_value_54 ?_
      refine ii_i2l dX5_value_57 ?_
      obtain ⟨c_6, hc_6, h⟩ := bnd h
      refine ii_callVv (As := [.int s_1.1, .int (0 : Int32), .long c_5.1.toInt64]) (ws' := [(a_this, .inr (5, [.long v_this_best, .int v_this_bestPlan, .ref a_this_house, .ref a_this_ways, .ref a_this_silver])), (a_this_house, .inr (0, [.ref a_this_house_merchants, .ref a_this_house_texts, .ref a_this_house_acts, .ref a_this_house_debts, .ref a_this_house_payments, .ref a_this_house_purses, .ref a_this_house_gates, .ref a_this_house_stones, .ref a_this_house_told, .ref a_this_house_letters, .ref a_this_house_mentions, .ref a_this_house_loads, .ref a_this_house_prices, .int v_this_house_narrow, .int v_this_house_names])), (a_this_house_acts, .inr (8, [.int (104 : Int32), .int (16 : Int32), .ref a_this_house_acts_cells, .int v_this_house_acts_rows])), (a_this_house_acts_cells, .inl (cI, 1664, .inl v_this_house_acts_cells)), (a_this_house_gates, .inr (8, [.int (1 : Int32), .int (6 : Int32), .ref a_this_house_gates_cells, .int v_this_house_gates_rows])), (a_this_house_gates_cells, .inl (cI, 6, .inl v_this_house_gates_cells)), (a_this_house_loads, .inr (8, [.int (3 : Int32), .int (6 : Int32), .ref a_this_house_loads_cells, .int v_this_house_loads_rows])), (a_this_house_loads_cells, .inl (cI, 18, .inl v_this_house_loads_cells)), (a_this_house_merchants, .inr (8, [.int (2 : Int32), .int (10 : Int32), .ref a_this_house_merchants_cells, .int v_this_house_merchants_rows])), (a_this_house_merchants_cells, .inl (cI, 20, .inl v_this_house_merchants_cells)), (a_this_house_prices, .inr (8, [.int (3 : Int32), .int (1 : Int32), .ref a_this_house_prices_cells, .int v_this_house_prices_rows])), (a_this_house_prices_cells, .inl (cI, 3, .inl v_this_house_prices_cells)), (a_this_silver, .inl (cJ, 54, .inr (.inl c_6))), (a_this_ways, .inr (9, [.ref a_this_house, .ref a_this_ways_law])), (a_this_ways_law, .inr (1, [.ref a_this_house, .ref a_this_ways_law_stack, .int c_5.2.2.2.1, .int c_5.2.2.1, .int c_5.2.2.2.2.1, .int c_5.2.2.2.2.2.2.2, .int c_5.2.2.2.2.2.1, .long c_5.2.1])), (a_this_ways_law_stack, .inl (cJ, 50, .inr (.inl c_5.2.2.2.2.2.2.1)))]) (st := []) (c_X5_setSilver l D cI cJ cZ cH a_this a_this_house a_this_house_acts a_this_house_debts a_this_house_gates a_this_house_letters a_this_house_loads a_this_house_loads_cells a_this_house_mentions a_this_house_merchants a_this_house_payments a_this_house_prices a_this_house_prices_cells a_this_house_purses a_this_house_stones a_this_house_texts a_this_house_told a_this_silver a_this_ways v_this_best v_this_bestPlan v_this_house_loads_cells v_this_house_loads_rows v_this_house_names v_this_house_narrow v_this_house_prices_cells v_this_house_prices_rows s_1.2.1 s_1.1 (0 : Int32) c_5.1.toInt64 hc_6) gzX5_45 rfl rfl rfl eV_X5_setSilver ⟨Nat.le_of_ble_eq_true rfl, Nat.le_of_ble_eq_true rfl⟩ rfl 0 rfl rfl [0, 1, 6, 7, 10, 11, 12] rfl rfl rfl rfl rfl (Nat.le_of_ble_eq_true rfl) (Nat.le_refl _) (Nat.le_refl _) rfl dX5_value_58 ?_
      refine ii_aload_n 2 dX5_value_61 rfl ?_
      refine ii_iload_n 4 dX5_value_62 rfl ?_
      refine ii_iconst dX5_value_63 kc1 ?_
      refine ii_aload_n 2 dX5_value_64 rfl ?_
      refine ii_get (C := RX5) (T := TX5) (N := 5) (ci := 5) izX5 0 rfl rfl 3 (by decide) kX5_19 rfl dX5_value_65 ?_
      refine ii_iload 0 dX5_value_68 rfl ?_
      obtain ⟨c_7, hc_7, h⟩ := bnd h
      refine ii_callVi (As := [.int c_4]) (ws' := [(a_this, .inr (5, [.long v_this_best, .int v_this_bestPlan, .ref a_this_house, .ref a_this_ways, .ref a_this_silver])), (a_this_house, .inr (0, [.ref a_this_house_merchants, .ref a_this_house_texts, .ref a_this_house_acts, .ref a_this_house_debts, .ref a_this_house_payments, .ref a_this_house_purses, .ref a_this_house_gates, .ref a_this_house_stones, .ref a_this_house_told, .ref a_this_house_letters, .ref a_this_house_mentions, .ref a_this_house_loads, .ref a_this_house_prices, .int v_this_house_narrow, .int v_this_house_names])), (a_this_house_acts, .inr (8, [.int (104 : Int32), .int (16 : Int32), .ref a_this_house_acts_cells, .int v_this_house_acts_rows])), (a_this_house_acts_cells, .inl (cI, 1664, .inl v_this_house_acts_cells)), (a_this_house_gates, .inr (8, [.int (1 : Int32), .int (6 : Int32), .ref a_this_house_gates_cells, .int v_this_house_gates_rows])), (a_this_house_gates_cells, .inl (cI, 6, .inl v_this_house_gates_cells)), (a_this_house_loads, .inr (8, [.int (3 : Int32), .int (6 : Int32), .ref a_this_house_loads_cells, .int v_this_house_loads_rows])), (a_this_house_loads_cells, .inl (cI, 18, .inl v_this_house_loads_cells)), (a_this_house_merchants, .inr (8, [.int (2 : Int32), .int (10 : Int32), .ref a_this_house_merchants_cells, .int v_this_house_merchants_rows])), (a_this_house_merchants_cells, .inl (cI, 20, .inl v_this_house_merchants_cells)), (a_this_house_prices, .inr (8, [.int (3 : Int32), .int (1 : Int32), .ref a_this_house_prices_cells, .int v_this_house_prices_rows])), (a_this_house_prices_cells, .inl (cI, 3, .inl v_this_house_prices_cells)), (a_this_silver, .inl (cJ, 54, .inr (.inl c_6))), (a_this_ways, .inr (9, [.ref a_this_house, .ref a_this_ways_law])), (a_this_ways_law, .inr (1, [.ref a_this_house, .ref a_this_ways_law_stack, .int c_5.2.2.2.1, .int c_5.2.2.1, .int c_5.2.2.2.2.1, .int c_5.2.2.2.2.2.2.2, .int c_5.2.2.2.2.2.1, .long c_5.2.1])), (a_this_ways_law_stack, .inl (cJ, 50, .inr (.inl c_5.2.2.2.2.2.2.1)))]) (st := [.int (1 : Int32), .int s_1.1, .ref a_this]) (c_X9_leftByLuck l D cI cJ cZ cH a_this_ways a_this_house a_this_house_acts a_this_house_debts a_this_house_gates a_this_house_letters a_this_house_loads a_this_house_mentions a_this_house_merchants a_this_house_payments a_this_house_prices a_this_house_purses a_this_house_stones a_this_house_texts a_this_house_told a_this_ways_law v_this_house_names v_this_house_narrow c_4 hc_7) gzX5_49 rfl rfl rfl eV_X9_leftByLuck ⟨Nat.le_of_ble_eq_true rfl, Nat.le_of_ble_eq_true rfl⟩ rfl 13 rfl rfl [13, 1] rfl rfl rfl rfl rfl (Nat.le_of_ble_eq_true rfl) (Nat.le_refl _) (Nat.le_refl _) rfl dX5_value_70 ?_
      refine ii_i2l dX5_value_73 ?_
      obtain ⟨c_8, hc_8, h⟩ := bnd h
      refine ii_callVv (As := [.int s_1.1, .int (1 : Int32), .long c_7.toInt64]) (ws' := [(a_this, .inr (5, [.long v_this_best, .int v_this_bestPlan, .ref a_this_house, .ref a_this_ways, .ref a_this_silver])), (a_this_house, .inr (0, [.ref a_this_house_merchants, .ref a_this_house_texts, .ref a_this_house_acts, .ref a_this_house_debts, .ref a_this_house_payments, .ref a_this_house_purses, .ref a_this_house_gates, .ref a_this_house_stones, .ref a_this_house_told, .ref a_this_house_letters, .ref a_this_house_mentions, .ref a_this_house_loads, .ref a_this_house_prices, .int v_this_house_narrow, .int v_this_house_names])), (a_this_house_acts, .inr (8, [.int (104 : Int32), .int (16 : Int32), .ref a_this_house_acts_cells, .int v_this_house_acts_rows])), (a_this_house_acts_cells, .inl (cI, 1664, .inl v_this_house_acts_cells)), (a_this_house_gates, .inr (8, [.int (1 : Int32), .int (6 : Int32), .ref a_this_house_gates_cells, .int v_this_house_gates_rows])), (a_this_house_gates_cells, .inl (cI, 6, .inl v_this_house_gates_cells)), (a_this_house_loads, .inr (8, [.int (3 : Int32), .int (6 : Int32), .ref a_this_house_loads_cells, .int v_this_house_loads_rows])), (a_this_house_loads_cells, .inl (cI, 18, .inl v_this_house_loads_cells)), (a_this_house_merchants, .inr (8, [.int (2 : Int32), .int (10 : Int32), .ref a_this_house_merchants_cells, .int v_this_house_merchants_rows])), (a_this_house_merchants_cells, .inl (cI, 20, .inl v_this_house_merchants_cells)), (a_this_house_prices, .inr (8, [.int (3 : Int32), .int (1 : Int32), .ref a_this_house_prices_cells, .int v_this_house_prices_rows])), (a_this_house_prices_cells, .inl (cI, 3, .inl v_this_house_prices_cells)), (a_this_silver, .inl (cJ, 54, .inr (.inl c_8))), (a_this_ways, .inr (9, [.ref a_this_house, .ref a_this_ways_law])), (a_this_ways_law, .inr (1, [.ref a_this_house, .ref a_this_ways_law_stack, .int c_5.2.2.2.1, .int c_5.2.2.1, .int c_5.2.2.2.2.1, .int c_5.2.2.2.2.2.2.2, .int c_5.2.2.2.2.2.1, .long c_5.2.1])), (a_this_ways_law_stack, .inl (cJ, 50, .inr (.inl c_5.2.2.2.2.2.2.1)))]) (st := []) (c_X5_setSilver l D cI cJ cZ cH a_this a_this_house a_this_house_acts a_this_house_debts a_this_house_gates a_this_house_letters a_this_house_loads a_this_house_loads_cells a_this_house_mentions a_this_house_merchants a_this_house_payments a_this_house_prices a_this_house_prices_cells a_this_house_purses a_this_house_stones a_this_house_texts a_this_house_told a_this_silver a_this_ways v_this_best v_this_bestPlan v_this_house_loads_cells v_this_house_loads_rows v_this_house_names v_this_house_narrow v_this_house_prices_cells v_this_house_prices_rows c_6 s_1.1 (1 : Int32) c_7.toInt64 hc_8) gzX5_45 rfl rfl rfl eV_X5_setSilver ⟨Nat.le_of_ble_eq_true rfl, Nat.le_of_ble_eq_true rfl⟩ rfl 0 rfl rfl [0, 1, 6, 7, 10, 11, 12] rfl rfl rfl rfl rfl (Nat.le_of_ble_eq_true rfl) (Nat.le_refl _) (Nat.le_refl _) rfl dX5_value_74 ?_
      refine ii_aload_n 2 dX5_value_77 rfl ?_
      refine ii_iload_n 4 dX5_value_78 rfl ?_
      refine ii_iconst dX5_value_79 kc2 ?_
      refine ii_lconst dX5_value_80 kl0 ?_
      obtain ⟨c_9, hc_9, h⟩ := bnd h
      refine ii_callVv (As := [.int s_1.1, .int (2 : Int32), .long (0 : Int64)]) (ws' := [(a_this, .inr (5, [.long v_this_best, .int v_this_bestPlan, .ref a_this_house, .ref a_this_ways, .ref a_this_silver])), (a_this_house, .inr (0, [.ref a_this_house_merchants, .ref a_this_house_texts, .ref a_this_house_acts, .ref a_this_house_debts, .ref a_this_house_payments, .ref a_this_house_purses, .ref a_this_house_gates, .ref a_this_house_stones, .ref a_this_house_told, .ref a_this_house_letters, .ref a_this_house_mentions, .ref a_this_house_loads, .ref a_this_house_prices, .int v_this_house_narrow, .int v_this_house_names])), (a_this_house_acts, .inr (8, [.int (104 : Int32), .int (16 : Int32), .ref a_this_house_acts_cells, .int v_this_house_acts_rows])), (a_this_house_acts_cells, .inl (cI, 1664, .inl v_this_house_acts_cells)), (a_this_house_gates, .inr (8, [.int (1 : Int32), .int (6 : Int32), .ref a_this_house_gates_cells, .int v_this_house_gates_rows])), (a_this_house_gates_cells, .inl (cI, 6, .inl v_this_house_gates_cells)), (a_this_house_loads, .inr (8, [.int (3 : Int32), .int (6 : Int32), .ref a_this_house_loads_cells, .int v_this_house_loads_rows])), (a_this_house_loads_cells, .inl (cI, 18, .inl v_this_house_loads_cells)), (a_this_house_merchants, .inr (8, [.int (2 : Int32), .int (10 : Int32), .ref a_this_house_merchants_cells, .int v_this_house_merchants_rows])), (a_this_house_merchants_cells, .inl (cI, 20, .inl v_this_house_merchants_cells)), (a_this_house_prices, .inr (8, [.int (3 : Int32), .int (1 : Int32), .ref a_this_house_prices_cells, .int v_this_house_prices_rows])), (a_this_house_prices_cells, .inl (cI, 3, .inl v_this_house_prices_cells)), (a_this_silver, .inl (cJ, 54, .inr (.inl c_9))), (a_this_ways, .inr (9, [.ref a_this_house, .ref a_this_ways_law])), (a_this_ways_law, .inr (1, [.ref a_this_house, .ref a_this_ways_law_stack, .int c_5.2.2.2.1, .int c_5.2.2.1, .int c_5.2.2.2.2.1, .int c_5.2.2.2.2.2.2.2, .int c_5.2.2.2.2.2.1, .long c_5.2.1])), (a_this_ways_law_stack, .inl (cJ, 50, .inr (.inl c_5.2.2.2.2.2.2.1)))]) (st := []) (c_X5_setSilver l D cI cJ cZ cH a_this a_this_house a_this_house_acts a_this_house_debts a_this_house_gates a_this_house_letters a_this_house_loads a_this_house_loads_cells a_this_house_mentions a_this_house_merchants a_this_house_payments a_this_house_prices a_this_house_prices_cells a_this_house_purses a_this_house_stones a_this_house_texts a_this_house_told a_this_silver a_this_ways v_this_best v_this_bestPlan v_this_house_loads_cells v_this_house_loads_rows v_this_house_names v_this_house_narrow v_this_house_prices_cells v_this_house_prices_rows c_8 s_1.1 (2 : Int32) (0 : Int64) hc_9) gzX5_45 rfl rfl rfl eV_X5_setSilver ⟨Nat.le_of_ble_eq_true rfl, Nat.le_of_ble_eq_true rfl⟩ rfl 0 rfl rfl [0, 1, 6, 7, 10, 11, 12] rfl rfl rfl rfl rfl (Nat.le_of_ble_eq_true rfl) (Nat.le_refl _) (Nat.le_refl _) rfl dX5_value_81 ?_
      refine ii_iinc (fun x_10 => [(2, .int x_10), (4, .int c_4), (3, .int c_3), (0, .ref a_this), (1, .int p0)]) h 4 dX5_value_84 rfl kc1 (by decide) (fun _ => rfl) (fun x_10 h => ?_)
      refine ii_goto (tgt := 2) dX5_value_87 (by decide) ?_
      refine ii_lv [3, 4, 0] rfl ?_
      cases h
      exact hb_1 (x_10, c_9, c_5.2.1, c_5.2.2.1, c_5.2.2.2.1, c_5.2.2.2.2.1, c_5.2.2.2.2.2.1, c_5.2.2.2.2.2.2.1, c_5.2.2.2.2.2.2.2) rfl
set_option maxHeartbeats 4000000 in
set_option maxRecDepth 100000 in
theorem c_X5_silverOf (l : Launch) (D : va_G) (cI cJ cZ cH : ClassId) (a_this a_this_house a_this_silver a_this_ways : Nat) (v_this_best : Int64) (v_this_bestPlan : Int32) (v_this_silver : Nat → Int64) (p0 : Int32) (p1 : Int32) (p2 : Int32) {res : Int64} (h : F_X5_silverOf v_this_silver p0 p1 p2 = some res) : CTl l yX5_silverOf wzX5_silverOf { frames := 0, cells := 0, slots := 0, locals := 0 } D [(cI, .int), (cJ, .long), (cZ, .boolean), (cH, .object "TinHouse$House")] [.ref a_this, .int p0, .int p1, .int p2] [(a_this, .inr (5, [.long v_this_best, .int v_this_bestPlan, .ref a_this_house, .ref a_this_ways, .ref a_this_silver])), (a_this_silver, .inl (cJ, 54, .inr (.inl v_this_silver)))] res [(a_this, .inr (5, [.long v_this_best, .int v_this_bestPlan, .ref a_this_house, .ref a_this_ways, .ref a_this_silver])), (a_this_silver, .inl (cJ, 54, .inr (.inl v_this_silver)))] := by
  unfold F_X5_silverOf at h
  refine ii_metL (own := RX5) (lv0 := [(0, .ref a_this), (1, .int p0), (2, .int p1), (3, .int p2)]) (by decide) rfl rfl rfl (Nat.le_of_ble_eq_true rfl) (fun {p e s m args below meth c A Q} hQ => ?_)
  refine ii_iload_n 1 dX5_silverOf_0 rfl ?_
  refine ii_iconst dX5_silverOf_1 kc3 ?_
  refine ii_imul dX5_silverOf_2 ?_
  refine ii_iload_n 2 dX5_silverOf_3 rfl ?_
  refine ii_iadd dX5_silverOf_4 ?_
  refine ii_iconst dX5_silverOf_5 kc3 ?_
  refine ii_imul dX5_silverOf_6 ?_
  refine ii_iload_n 3 dX5_silverOf_7 rfl ?_
  refine ii_iadd dX5_silverOf_8 ?_
  refine ii_topI h (fun x_1 h => ?_)
  refine ii_istore (lv' := [(4, .int x_1), (0, .ref a_this), (1, .int p0), (2, .int p1), (3, .int p2)]) dX5_silverOf_9 (by decide) rfl ?_
  refine ii_iload 0 dX5_silverOf_11 rfl ?_
  refine ii_jn h (fun j_2 => [(a_this, .inr (5, [.long v_this_best, .int v_this_bestPlan, .ref a_this_house, .ref a_this_ways, .ref a_this_silver])), (a_this_silver, .inl (cJ, 54, .inr (.inl v_this_silver)))]) (fun j_2 => []) 37 (fun j_2 => [.long j_2]) (fun j_2 h => ?_) (fun j_2 h hjj_2 => ?_)
  · skip
    cases h
    exact hQ _ _ dX5_silverOf_37
  · skip
    refine ii_if_lt (tgt := 36) h dX5_silverOf_13 (by decide) (fun h => ?_) (fun h => ?_)
    · skip
      refine ii_lconst dX5_silverOf_36 kl0 ?_
      refine ii_lv [] rfl ?_
      cases h
      exact hjj_2
    · skip
      refine ii_iload 0 dX5_silverOf_16 rfl ?_
      refine ii_aload_n 1 dX5_silverOf_18 rfl ?_
      refine ii_get (C := RX5) (T := TX5) (N := 5) (ci := 5) izX5 0 rfl rfl 4 (by decide) kX5_9 rfl dX5_silverOf_19 ?_
      refine ii_alen (v := (54 : Int32)) 1 1 rfl rfl rfl dX5_silverOf_22 ?_
      refine ii_icmp_ge (tgt := 36) h dX5_silverOf_23 (by decide) (fun h => ?_) (fun h => ?_)
      · skip
        refine ii_lconst dX5_silverOf_36 kl0 ?_
        refine ii_lv [] rfl ?_
        cases h
        exact hjj_2
      · skip
        refine ii_aload_n 1 dX5_silverOf_26 rfl ?_
        refine ii_get (C := RX5) (T := TX5) (N := 5) (ci := 5) izX5 0 rfl rfl 4 (by decide) kX5_9 rfl dX5_silverOf_27 ?_
        refine ii_iload 0 dX5_silverOf_30 rfl ?_
        refine ii_lald h 1 1 rfl rfl dX5_silverOf_32 (fun t_3 h => ?_)
        refine ii_goto (tgt := 37) dX5_silverOf_33 (by decide) ?_
        refine ii_lv [] rfl ?_
        cases h
        exact hjj_2
set_option maxHeartbeats 4000000 in
set_option maxRecDepth 100000 in
theorem c_X5_worstOf (l : Launch) (D : va_G) (cI cJ cZ cH : ClassId) (a_this a_this_house a_this_house_acts a_this_house_debts a_this_house_gates a_this_house_letters a_this_house_loads a_this_house_loads_cells a_this_house_mentions a_this_house_merchants a_this_house_payments a_this_house_prices a_this_house_purses a_this_house_stones a_this_house_texts a_this_house_told a_this_silver a_this_ways : Nat) (v_this_best : Int64) (v_this_bestPlan : Int32) (v_this_house_loads_rows : Int32) (v_this_house_names : Int32) (v_this_house_narrow : Int32) (v_this_silver : Nat → Int64) (p0 : Int32) {res : Int64} (h : F_X5_worstOf v_this_house_loads_rows v_this_silver p0 = some res) : CTl l yX5_worstOf wzX5_worstOf { frames := 1, cells := 0, slots := 0, locals := 24 } D [(cI, .int), (cJ, .long), (cZ, .boolean), (cH, .object "TinHouse$House")] [.ref a_this, .int p0] [(a_this, .inr (5, [.long v_this_best, .int v_this_bestPlan, .ref a_this_house, .ref a_this_ways, .ref a_this_silver])), (a_this_house, .inr (0, [.ref a_this_house_merchants, .ref a_this_house_texts, .ref a_this_house_acts, .ref a_this_house_debts, .ref a_this_house_payments, .ref a_this_house_purses, .ref a_this_house_gates, .ref a_this_house_stones, .ref a_this_house_told, .ref a_this_house_letters, .ref a_this_house_mentions, .ref a_this_house_loads, .ref a_this_house_prices, .int v_this_house_narrow, .int v_this_house_names])), (a_this_house_loads, .inr (8, [.int (3 : Int32), .int (6 : Int32), .ref a_this_house_loads_cells, .int v_this_house_loads_rows])), (a_this_silver, .inl (cJ, 54, .inr (.inl v_this_silver)))] res [(a_this, .inr (5, [.long v_this_best, .int v_this_bestPlan, .ref a_this_house, .ref a_this_ways, .ref a_this_silver])), (a_this_house, .inr (0, [.ref a_this_house_merchants, .ref a_this_house_texts, .ref a_this_house_acts, .ref a_this_house_debts, .ref a_this_house_payments, .ref a_this_house_purses, .ref a_this_house_gates, .ref a_this_house_stones, .ref a_this_house_told, .ref a_this_house_letters, .ref a_this_house_mentions, .ref a_this_house_loads, .ref a_this_house_prices, .int v_this_house_narrow, .int v_this_house_names])), (a_this_house_loads, .inr (8, [.int (3 : Int32), .int (6 : Int32), .ref a_this_house_loads_cells, .int v_this_house_loads_rows])), (a_this_silver, .inl (cJ, 54, .inr (.inl v_this_silver)))] := by
  unfold F_X5_worstOf at h
  refine ii_metL (own := RX5) (lv0 := [(0, .ref a_this), (1, .int p0)]) (by decide) rfl rfl rfl (Nat.le_of_ble_eq_true rfl) (fun {p e s m args below meth c A Q} hQ => ?_)
  refine ii_lconst dX5_worstOf_0 kl0 ?_
  refine ii_lstore_n (lv' := [(2, .long (0 : Int64)), (0, .ref a_this), (1, .int p0)]) dX5_worstOf_1 rfl (by decide) rfl ?_
  refine ii_lconst dX5_worstOf_2 kl0 ?_
  refine ii_lstore (lv' := [(4, .long (0 : Int64)), (2, .long (0 : Int64)), (0, .ref a_this), (1, .int p0)]) dX5_worstOf_3 (by decide) rfl ?_
  refine ii_lconst dX5_worstOf_5 kl0 ?_
  refine ii_lstore (lv' := [(6, .long (0 : Int64)), (4, .long (0 : Int64)), (2, .long (0 : Int64)), (0, .ref a_this), (1, .int p0)]) dX5_worstOf_6 (by decide) rfl ?_
  refine ii_iload_n 4 dX5_worstOf_8 rfl ?_
  refine ii_istore (lv' := [(8, .int p0), (6, .long (0 : Int64)), (4, .long (0 : Int64)), (2, .long (0 : Int64)), (0, .ref a_this), (1, .int p0)]) dX5_worstOf_9 (by decide) rfl ?_
  refine ii_aload_n 4 dX5_worstOf_11 rfl ?_
  refine ii_get (C := RX5) (T := TX5) (N := 5) (ci := 5) izX5 0 rfl rfl 2 (by decide) kX5_15 rfl dX5_worstOf_12 ?_
  refine ii_get (C := RX0) (T := TX0) (N := 15) (ci := 0) izX0 1 rfl rfl 11 (by decide) kX5_23 rfl dX5_worstOf_15 ?_
  refine ii_get (C := RX8) (T := TX8) (N := 4) (ci := 8) izX8 2 rfl rfl 3 (by decide) kX5_29 rfl dX5_worstOf_18 ?_
  refine ii_iconst dX5_worstOf_21 kc1 ?_
  refine ii_isub dX5_worstOf_22 ?_
  refine ii_topI h (fun x_1 h => ?_)
  refine ii_istore (lv' := [(9, .int x_1), (8, .int p0), (6, .long (0 : Int64)), (4, .long (0 : Int64)), (2, .long (0 : Int64)), (0, .ref a_this), (1, .int p0)]) dX5_worstOf_23 (by decide) rfl ?_
  refine ii_lv [5, 4, 3, 2, 1, 0] rfl ?_
  obtain ⟨x_3, hl_2, h⟩ := bnd h
  refine ii_loopX (fun s_2 => [(a_this, .inr (5, [.long v_this_best, .int v_this_bestPlan, .ref a_this_house, .ref a_this_ways, .ref a_this_silver])), (a_this_house, .inr (0, [.ref a_this_house_merchants, .ref a_this_house_texts, .ref a_this_house_acts, .ref a_this_house_debts, .ref a_this_house_payments, .ref a_this_house_purses, .ref a_this_house_gates, .ref a_this_house_stones, .ref a_this_house_told, .ref a_this_house_letters, .ref a_this_house_mentions, .ref a_this_house_loads, .ref a_this_house_prices, .int v_this_house_narrow, .int v_this_house_names])), (a_this_house_loads, .inr (8, [.int (3 : Int32), .int (6 : Int32), .ref a_this_house_loads_cells, .int v_this_house_loads_rows])), (a_this_silver, .inl (cJ, 54, .inr (.inl v_this_silver)))]) (fun s_2 => [(0, .ref a_this), (2, .long s_2.1), (4, .long s_2.2.1), (6, .long s_2.2.2.1), (8, .int s_2.2.2.2.1), (9, .int s_2.2.2.2.2)]) (fun x_3 => [(a_this, .inr (5, [.long v_this_best, .int v_this_bestPlan, .ref a_this_house, .ref a_this_ways, .ref a_this_silver])), (a_this_house, .inr (0, [.ref a_this_house_merchants, .ref a_this_house_texts, .ref a_this_house_acts, .ref a_this_house_debts, .ref a_this_house_payments, .ref a_this_house_purses, .ref a_this_house_gates, .ref a_this_house_stones, .ref a_this_house_told, .ref a_this_house_letters, .ref a_this_house_mentions, .ref a_this_house_loads, .ref a_this_house_prices, .int v_this_house_narrow, .int v_this_house_names])), (a_this_house_loads, .inr (8, [.int (3 : Int32), .int (6 : Int32), .ref a_this_house_loads_cells, .int v_this_house_loads_rows])), (a_this_silver, .inl (cJ, 54, .inr (.inl v_this_silver)))]) (fun x_3 => [(2, .long x_3.1), (4, .long x_3.2.1), (6, .long x_3.2.2.1)]) 88 hl_2 rfl rfl ?_ (fun s_2 o h hb_2 hr_2 hx_2 => ?_)
  · skip
    refine ii_lload_n 0 dX5_worstOf_88 rfl ?_
    refine ii_lload 1 dX5_worstOf_89 rfl ?_
    refine ii_lload 2 dX5_worstOf_91 rfl ?_
    refine ii_mminL mX5_73 ms_min_long mi_Math mc_min_long (Nat.le_of_ble_eq_true rfl) (Nat.le_of_ble_eq_true rfl) (Nat.le_refl _) (Nat.le_refl _) dX5_worstOf_93 ?_
    refine ii_mminL mX5_73 ms_min_long mi_Math mc_min_long (Nat.le_of_ble_eq_true rfl) (Nat.le_of_ble_eq_true rfl) (Nat.le_refl _) (Nat.le_refl _) dX5_worstOf_96 ?_
    cases h
    exact hQ _ _ dX5_worstOf_99
  · skip
    refine ii_iload 5 dX5_worstOf_25 rfl ?_
    refine ii_if_lt (tgt := 88) h dX5_worstOf_27 (by decide) (fun h => ?_) (fun h => ?_)
    · skip
      refine ii_lv [1, 2, 3] rfl ?_
      cases h
      exact hx_2 (s_2.1, s_2.2.1, s_2.2.2.1, s_2.2.2.2.1, s_2.2.2.2.2) (hr_2 _ rfl)
    · skip
      refine ii_iload 4 dX5_worstOf_30 rfl ?_
      refine ii_iconst dX5_worstOf_32 kc3 ?_
      refine ii_irem h dX5_worstOf_33 (fun t_4 h => ?_)
      refine ii_istore (lv' := [(10, .int t_4), (0, .ref a_this), (2, .long s_2.1), (4, .long s_2.2.1), (6, .long s_2.2.2.1), (8, .int s_2.2.2.2.1), (9, .int s_2.2.2.2.2)]) dX5_worstOf_34 (by decide) rfl ?_
      refine ii_iload 5 dX5_worstOf_36 rfl ?_
      refine ii_iconst dX5_worstOf_38 kc3 ?_
      refine ii_idiv h dX5_worstOf_39 (fun t_5 h => ?_)
      refine ii_istore (lv' := [(8, .int t_5), (10, .int t_4), (0, .ref a_this), (2, .long s_2.1), (4, .long s_2.2.1), (6, .long s_2.2.2.1), (9, .int s_2.2.2.2.2)]) dX5_worstOf_40 (by decide) rfl ?_
      refine ii_lload_n 3 dX5_worstOf_42 rfl ?_
      refine ii_aload_n 2 dX5_worstOf_43 rfl ?_
      refine ii_iload 6 dX5_worstOf_44 rfl ?_
      refine ii_iload 1 dX5_worstOf_46 rfl ?_
      refine ii_iconst dX5_worstOf_48 kc0 ?_
      obtain ⟨c_6, hc_6, h⟩ := bnd h
      refine ii_callVl (As := [.int s_2.2.2.2.2, .int t_4, .int (0 : Int32)]) (ws' := [(a_this, .inr (5, [.long v_this_best, .int v_this_bestPlan, .ref a_this_house, .ref a_this_ways, .ref a_this_silver])), (a_this_house, .inr (0, [.ref a_this_house_merchants, .ref a_this_house_texts, .ref a_this_house_acts, .ref a_this_house_debts, .ref a_this_house_payments, .ref a_this_house_purses, .ref a_this_house_gates, .ref a_this_house_stones, .ref a_this_house_told, .ref a_this_house_letters, .ref a_this_house_mentions, .ref a_this_house_loads, .ref a_this_house_prices, .int v_this_house_narrow, .int v_this_house_names])), (a_this_house_loads, .inr (8, [.int (3 : Int32), .int (6 : Int32), .ref a_this_house_loads_cells, .int v_this_house_loads_rows])), (a_this_silver, .inl (cJ, 54, .inr (.inl v_this_silver)))]) (st := [.long s_2.1]) (c_X5_silverOf l D cI cJ cZ cH a_this a_this_house a_this_silver a_this_ways v_this_best v_this_bestPlan v_this_silver s_2.2.2.2.2 t_4 (0 : Int32) hc_6) gzX5_69 rfl rfl rfl eV_X5_silverOf ⟨Nat.le_of_ble_eq_true rfl, Nat.le_of_ble_eq_true rfl⟩ rfl 0 rfl rfl [0, 3] rfl rfl rfl rfl rfl (Nat.le_of_ble_eq_true rfl) (Nat.le_refl _) (Nat.le_refl _) rfl dX5_worstOf_49 ?_
      refine ii_ladd dX5_worstOf_52 ?_
      refine ii_topL h (fun x_7 h => ?_)
      refine ii_lstore_n (lv' := [(2, .long x_7), (8, .int t_5), (10, .int t_4), (0, .ref a_this), (4, .long s_2.2.1), (6, .long s_2.2.2.1), (9, .int s_2.2.2.2.2)]) dX5_worstOf_53 rfl (by decide) rfl ?_
      refine ii_lload 4 dX5_worstOf_54 rfl ?_
      refine ii_aload_n 3 dX5_worstOf_56 rfl ?_
      refine ii_iload 6 dX5_worstOf_57 rfl ?_
      refine ii_iload 2 dX5_worstOf_59 rfl ?_
      refine ii_iconst dX5_worstOf_61 kc1 ?_
      obtain ⟨c_8, hc_8, h⟩ := bnd h
      refine ii_callVl (As := [.int s_2.2.2.2.2, .int t_4, .int (1 : Int32)]) (ws' := [(a_this, .inr (5, [.long v_this_best, .int v_this_bestPlan, .ref a_this_house, .ref a_this_ways, .ref a_this_silver])), (a_this_house, .inr (0, [.ref a_this_house_merchants, .ref a_this_house_texts, .ref a_this_house_acts, .ref a_this_house_debts, .ref a_this_house_payments, .ref a_this_house_purses, .ref a_this_house_gates, .ref a_this_house_stones, .ref a_this_house_told, .ref a_this_house_letters, .ref a_this_house_mentions, .ref a_this_house_loads, .ref a_this_house_prices, .int v_this_house_narrow, .int v_this_house_names])), (a_this_house_loads, .inr (8, [.int (3 : Int32), .int (6 : Int32), .ref a_this_house_loads_cells, .int v_this_house_loads_rows])), (a_this_silver, .inl (cJ, 54, .inr (.inl v_this_silver)))]) (st := [.long s_2.2.1]) (c_X5_silverOf l D cI cJ cZ cH a_this a_this_house a_this_silver a_this_ways v_this_best v_this_bestPlan v_this_silver s_2.2.2.2.2 t_4 (1 : Int32) hc_8) gzX5_69 rfl rfl rfl eV_X5_silverOf ⟨Nat.le_of_ble_eq_true rfl, Nat.le_of_ble_eq_true rfl⟩ rfl 0 rfl rfl [0, 3] rfl rfl rfl rfl rfl (Nat.le_of_ble_eq_true rfl) (Nat.le_refl _) (Nat.le_refl _) rfl dX5_worstOf_62 ?_
      refine ii_ladd dX5_worstOf_65 ?_
      refine ii_topL h (fun x_9 h => ?_)
      refine ii_lstore (lv' := [(4, .long x_9), (2, .long x_7), (8, .int t_5), (10, .int t_4), (0, .ref a_this), (6, .long s_2.2.2.1), (9, .int s_2.2.2.2.2)]) dX5_worstOf_66 (by decide) rfl ?_
      refine ii_lload 5 dX5_worstOf_68 rfl ?_
      refine ii_aload_n 4 dX5_worstOf_70 rfl ?_
      refine ii_iload 6 dX5_worstOf_71 rfl ?_
      refine ii_iload 3 dX5_worstOf_73 rfl ?_
      refine ii_iconst dX5_worstOf_75 kc2 ?_
      obtain ⟨c_10, hc_10, h⟩ := bnd h
      refine ii_callVl (As := [.int s_2.2.2.2.2, .int t_4, .int (2 : Int32)]) (ws' := [(a_this, .inr (5, [.long v_this_best, .int v_this_bestPlan, .ref a_this_house, .ref a_this_ways, .ref a_this_silver])), (a_this_house, .inr (0, [.ref a_this_house_merchants, .ref a_this_house_texts, .ref a_this_house_acts, .ref a_this_house_debts, .ref a_this_house_payments, .ref a_this_house_purses, .ref a_this_house_gates, .ref a_this_house_stones, .ref a_this_house_told, .ref a_this_house_letters, .ref a_this_house_mentions, .ref a_this_house_loads, .ref a_this_house_prices, .int v_this_house_narrow, .int v_this_house_names])), (a_this_house_loads, .inr (8, [.int (3 : Int32), .int (6 : Int32), .ref a_this_house_loads_cells, .int v_this_house_loads_rows])), (a_this_silver, .inl (cJ, 54, .inr (.inl v_this_silver)))]) (st := [.long s_2.2.2.1]) (c_X5_silverOf l D cI cJ cZ cH a_this a_this_house a_this_silver a_this_ways v_this_best v_this_bestPlan v_this_silver s_2.2.2.2.2 t_4 (2 : Int32) hc_10) gzX5_69 rfl rfl rfl eV_X5_silverOf ⟨Nat.le_of_ble_eq_true rfl, Nat.le_of_ble_eq_true rfl⟩ rfl 0 rfl rfl [0, 3] rfl rfl rfl rfl rfl (Nat.le_of_ble_eq_true rfl) (Nat.le_refl _) (Nat.le_refl _) rfl dX5_worstOf_76 ?_
      refine ii_ladd dX5_worstOf_79 ?_
      refine ii_topL h (fun x_11 h => ?_)
      refine ii_lstore (lv' := [(6, .long x_11), (4, .long x_9), (2, .long x_7), (8, .int t_5), (10, .int t_4), (0, .ref a_this), (9, .int s_2.2.2.2.2)]) dX5_worstOf_80 (by decide) rfl ?_
      refine ii_iinc (fun x_12 => [(9, .int x_12), (6, .long x_11), (4, .long x_9), (2, .long x_7), (8, .int t_5), (10, .int t_4), (0, .ref a_this)]) h 6 dX5_worstOf_82 rfl kcm1 (by decide) (fun _ => rfl) (fun x_12 h => ?_)
      refine ii_goto (tgt := 25) dX5_worstOf_85 (by decide) ?_
      refine ii_lv [6, 3, 2, 1, 4, 0] rfl ?_
      cases h
      exact hb_2 (x_7, x_9, x_11, t_5, x_12) rfl
set_option maxHeartbeats 4000000 in
set_option maxRecDepth 100000 in
theorem c_X5_choose (l : Launch) (D : va_G) (cI cJ cZ cH : ClassId) (a_this a_this_house a_this_house_acts a_this_house_debts a_this_house_gates a_this_house_letters a_this_house_loads a_this_house_loads_cells a_this_house_mentions a_this_house_merchants a_this_house_payments a_this_house_prices a_this_house_purses a_this_house_stones a_this_house_texts a_this_house_told a_this_silver a_this_ways : Nat) (v_this_best : Int64) (v_this_bestPlan : Int32) (v_this_house_loads_rows : Int32) (v_this_house_names : Int32) (v_this_house_narrow : Int32) (v_this_silver : Nat → Int64) {res : Int64 × Int32} (h : F_X5_choose v_this_best v_this_bestPlan v_this_house_loads_rows v_this_silver = some res) : CTv l yX5_choose wzX5_choose { frames := 2, cells := 0, slots := 0, locals := 54 } D [(cI, .int), (cJ, .long), (cZ, .boolean), (cH, .object "TinHouse$House")] [.ref a_this] [(a_this, .inr (5, [.long v_this_best, .int v_this_bestPlan, .ref a_this_house, .ref a_this_ways, .ref a_this_silver])), (a_this_house, .inr (0, [.ref a_this_house_merchants, .ref a_this_house_texts, .ref a_this_house_acts, .ref a_this_house_debts, .ref a_this_house_payments, .ref a_this_house_purses, .ref a_this_house_gates, .ref a_this_house_stones, .ref a_this_house_told, .ref a_this_house_letters, .ref a_this_house_mentions, .ref a_this_house_loads, .ref a_this_house_prices, .int v_this_house_narrow, .int v_this_house_names])), (a_this_house_loads, .inr (8, [.int (3 : Int32), .int (6 : Int32), .ref a_this_house_loads_cells, .int v_this_house_loads_rows])), (a_this_silver, .inl (cJ, 54, .inr (.inl v_this_silver)))] [(a_this, .inr (5, [.long res.1, .int res.2, .ref a_this_house, .ref a_this_ways, .ref a_this_silver])), (a_this_house, .inr (0, [.ref a_this_house_merchants, .ref a_this_house_texts, .ref a_this_house_acts, .ref a_this_house_debts, .ref a_this_house_payments, .ref a_this_house_purses, .ref a_this_house_gates, .ref a_this_house_stones, .ref a_this_house_told, .ref a_this_house_letters, .ref a_this_house_mentions, .ref a_this_house_loads, .ref a_this_house_prices, .int v_this_house_narrow, .int v_this_house_names])), (a_this_house_loads, .inr (8, [.int (3 : Int32), .int (6 : Int32), .ref a_this_house_loads_cells, .int v_this_house_loads_rows])), (a_this_silver, .inl (cJ, 54, .inr (.inl v_this_silver)))] := by
  unfold F_X5_choose at h
  refine ii_metV (own := RX5) (lv0 := [(0, .ref a_this)]) (by decide) rfl rfl rfl (Nat.le_of_ble_eq_true rfl) (fun {p e s m args below meth c A Q} hQ => ?_)
  refine ii_iconst dX5_choose_0 kc1 ?_
  refine ii_istore_n (lv' := [(1, .int (1 : Int32)), (0, .ref a_this)]) dX5_choose_1 rfl (by decide) rfl ?_
  refine ii_iconst dX5_choose_2 kc0 ?_
  refine ii_istore_n (lv' := [(2, .int (0 : Int32)), (1, .int (1 : Int32)), (0, .ref a_this)]) dX5_choose_3 rfl (by decide) rfl ?_
  refine ii_lv [2, 1, 0] rfl ?_
  obtain ⟨x_2, hl_1, h⟩ := bnd h
  refine ii_loopX (fun s_1 => [(a_this, .inr (5, [.long v_this_best, .int v_this_bestPlan, .ref a_this_house, .ref a_this_ways, .ref a_this_silver])), (a_this_house, .inr (0, [.ref a_this_house_merchants, .ref a_this_house_texts, .ref a_this_house_acts, .ref a_this_house_debts, .ref a_this_house_payments, .ref a_this_house_purses, .ref a_this_house_gates, .ref a_this_house_stones, .ref a_this_house_told, .ref a_this_house_letters, .ref a_this_house_mentions, .ref a_this_house_loads, .ref a_this_house_prices, .int v_this_house_narrow, .int v_this_house_names])), (a_this_house_loads, .inr (8, [.int (3 : Int32), .int (6 : Int32), .ref a_this_house_loads_cells, .int v_this_house_loads_rows])), (a_this_silver, .inl (cJ, 54, .inr (.inl v_this_silver)))]) (fun s_1 => [(0, .ref a_this), (1, .int s_1.1), (2, .int s_1.2)]) (fun x_2 => [(a_this, .inr (5, [.long v_this_best, .int v_this_bestPlan, .ref a_this_house, .ref a_this_ways, .ref a_this_silver])), (a_this_house, .inr (0, [.ref a_this_house_merchants, .ref a_this_house_texts, .ref a_this_house_acts, .ref a_this_house_debts, .ref a_this_house_payments, .ref a_this_house_purses, .ref a_this_house_gates, .ref a_this_house_stones, .ref a_this_house_told, .ref a_this_house_letters, .ref a_this_house_mentions, .ref a_this_house_loads, .ref a_this_house_prices, .int v_this_house_narrow, .int v_this_house_names])), (a_this_house_loads, .inr (8, [.int (3 : Int32), .int (6 : Int32), .ref a_this_house_loads_cells, .int v_this_house_loads_rows])), (a_this_silver, .inl (cJ, 54, .inr (.inl v_this_silver)))]) (fun x_2 => [(0, .ref a_this), (1, .int x_2.1)]) 28 hl_1 rfl rfl ?_ (fun s_1 o h hb_1 hr_1 hx_1 => ?_)
  · skip
    refine ii_aload_n 0 dX5_choose_28 rfl ?_
    refine ii_iconst dX5_choose_29 kc0 ?_
    refine ii_put (C := RX5) (T := TX5) (N := 5) (ci := 5) (ty0 := tyX5) (ws' := [(a_this, .inr (5, [.long v_this_best, .int (0 : Int32), .ref a_this_house, .ref a_this_ways, .ref a_this_silver])), (a_this_house, .inr (0, [.ref a_this_house_merchants, .ref a_this_house_texts, .ref a_this_house_acts, .ref a_this_house_debts, .ref a_this_house_payments, .ref a_this_house_purses, .ref a_this_house_gates, .ref a_this_house_stones, .ref a_this_house_told, .ref a_this_house_letters, .ref a_this_house_mentions, .ref a_this_house_loads, .ref a_this_house_prices, .int v_this_house_narrow, .int v_this_house_names])), (a_this_house_loads, .inr (8, [.int (3 : Int32), .int (6 : Int32), .ref a_this_house_loads_cells, .int v_this_house_loads_rows])), (a_this_silver, .inl (cJ, 54, .inr (.inl v_this_silver)))]) izX5 tyX5_ok nmX5 0 rfl rfl 1 (by decide) kX5_58 rfl rfl rfl (Nat.le_of_ble_eq_true rfl) dX5_choose_30 rfl ?_
    refine ii_aload_n 0 dX5_choose_33 rfl ?_
    refine ii_aload_n 0 dX5_choose_34 rfl ?_
    refine ii_iconst dX5_choose_35 kc0 ?_
    obtain ⟨c_5, hc_5, h⟩ := bnd h
    refine ii_callVl (As := [.int (0 : Int32)]) (ws' := [(a_this, .inr (5, [.long v_this_best, .int (0 : Int32), .ref a_this_house, .ref a_this_ways, .ref a_this_silver])), (a_this_house, .inr (0, [.ref a_this_house_merchants, .ref a_this_house_texts, .ref a_this_house_acts, .ref a_this_house_debts, .ref a_this_house_payments, .ref a_this_house_purses, .ref a_this_house_gates, .ref a_this_house_stones, .ref a_this_house_told, .ref a_this_house_letters, .ref a_this_house_mentions, .ref a_this_house_loads, .ref a_this_house_prices, .int v_this_house_narrow, .int v_this_house_names])), (a_this_house_loads, .inr (8, [.int (3 : Int32), .int (6 : Int32), .ref a_this_house_loads_cells, .int v_this_house_loads_rows])), (a_this_silver, .inl (cJ, 54, .inr (.inl v_this_silver)))]) (st := [.ref a_this]) (c_X5_worstOf l D cI cJ cZ cH a_this a_this_house a_this_house_acts a_this_house_debts a_this_house_gates a_this_house_letters a_this_house_loads a_this_house_loads_cells a_this_house_mentions a_this_house_merchants a_this_house_payments a_this_house_prices a_this_house_purses a_this_house_stones a_this_house_texts a_this_house_told a_this_silver a_this_ways v_this_best (0 : Int32) v_this_house_loads_rows v_this_house_names v_this_house_narrow v_this_silver (0 : Int32) hc_5) gzX5_61 rfl rfl rfl eV_X5_worstOf ⟨Nat.le_of_ble_eq_true rfl, Nat.le_of_ble_eq_true rfl⟩ rfl 0 rfl rfl [0, 1, 2, 3] rfl rfl rfl rfl rfl (Nat.le_of_ble_eq_true rfl) (Nat.le_refl _) (Nat.le_refl _) rfl dX5_choose_36 ?_
    refine ii_put (C := RX5) (T := TX5) (N := 5) (ci := 5) (ty0 := tyX5) (ws' := [(a_this, .inr (5, [.long c_5, .int (0 : Int32), .ref a_this_house, .ref a_this_ways, .ref a_this_silver])), (a_this_house, .inr (0, [.ref a_this_house_merchants, .ref a_this_house_texts, .ref a_this_house_acts, .ref a_this_house_debts, .ref a_this_house_payments, .ref a_this_house_purses, .ref a_this_house_gates, .ref a_this_house_stones, .ref a_this_house_told, .ref a_this_house_letters, .ref a_this_house_mentions, .ref a_this_house_loads, .ref a_this_house_prices, .int v_this_house_narrow, .int v_this_house_names])), (a_this_house_loads, .inr (8, [.int (3 : Int32), .int (6 : Int32), .ref a_this_house_loads_cells, .int v_this_house_loads_rows])), (a_this_silver, .inl (cJ, 54, .inr (.inl v_this_silver)))]) izX5 tyX5_ok nmX5 0 rfl rfl 0 (by decide) kX5_65 rfl rfl rfl (Nat.le_of_ble_eq_true rfl) dX5_choose_39 rfl ?_
    refine ii_iconst dX5_choose_42 kc1 ?_
    refine ii_istore_n (lv' := [(2, .int (1 : Int32)), (0, .ref a_this), (1, .int x_2.1)]) dX5_choose_43 rfl (by decide) rfl ?_
    refine ii_lv [1, 2, 0] rfl ?_
    obtain ⟨x_7, hl_6, h⟩ := bnd h
    refine ii_loopX (fun s_6 => [(a_this, .inr (5, [.long s_6.2.1, .int s_6.2.2, .ref a_this_house, .ref a_this_ways, .ref a_this_silver])), (a_this_house, .inr (0, [.ref a_this_house_merchants, .ref a_this_house_texts, .ref a_this_house_acts, .ref a_this_house_debts, .ref a_this_house_payments, .ref a_this_house_purses, .ref a_this_house_gates, .ref a_this_house_stones, .ref a_this_house_told, .ref a_this_house_letters, .ref a_this_house_mentions, .ref a_this_house_loads, .ref a_this_house_prices, .int v_this_house_narrow, .int v_this_house_names])), (a_this_house_loads, .inr (8, [.int (3 : Int32), .int (6 : Int32), .ref a_this_house_loads_cells, .int v_this_house_loads_rows])), (a_this_silver, .inl (cJ, 54, .inr (.inl v_this_silver)))]) (fun s_6 => [(0, .ref a_this), (1, .int x_2.1), (2, .int s_6.1)]) (fun x_7 => [(a_this, .inr (5, [.long x_7.2.1, .int x_7.2.2, .ref a_this_house, .ref a_this_ways, .ref a_this_silver])), (a_this_house, .inr (0, [.ref a_this_house_merchants, .ref a_this_house_texts, .ref a_this_house_acts, .ref a_this_house_debts, .ref a_this_house_payments, .ref a_this_house_purses, .ref a_this_house_gates, .ref a_this_house_stones, .ref a_this_house_told, .ref a_this_house_letters, .ref a_this_house_mentions, .ref a_this_house_loads, .ref a_this_house_prices, .int v_this_house_narrow, .int v_this_house_names])), (a_this_house_loads, .inr (8, [.int (3 : Int32), .int (6 : Int32), .ref a_this_house_loads_cells, .int v_this_house_loads_rows])), (a_this_silver, .inl (cJ, 54, .inr (.inl v_this_silver)))]) (fun x_7 => []) 80 hl_6 rfl rfl ?_ (fun s_6 o h hb_6 hr_6 hx_6 => ?_)
    · skip
      cases h
      exact hQ _ _ dX5_choose_80
    · skip
      refine ii_iload_n 2 dX5_choose_44 rfl ?_
      refine ii_iload_n 1 dX5_choose_45 rfl ?_
      refine ii_icmp_ge (tgt := 80) h dX5_choose_46 (by decide) (fun h => ?_) (fun h => ?_)
      · skip
        refine ii_lv [] rfl ?_
        cases h
        exact hx_6 (s_6.1, s_6.2.1, s_6.2.2) (hr_6 _ rfl)
      · skip
        refine ii_aload_n 0 dX5_choose_49 rfl ?_
        refine ii_iload_n 2 dX5_choose_50 rfl ?_
        obtain ⟨c_8, hc_8, h⟩ := bnd h
        refine ii_callVl (As := [.int s_6.1]) (ws' := [(a_this, .inr (5, [.long s_6.2.1, .int s_6.2.2, .ref a_this_house, .ref a_this_ways, .ref a_this_silver])), (a_this_house, .inr (0, [.ref a_this_house_merchants, .ref a_this_house_texts, .ref a_this_house_acts, .ref a_this_house_debts, .ref a_this_house_payments, .ref a_this_house_purses, .ref a_this_house_gates, .ref a_this_house_stones, .ref a_this_house_told, .ref a_this_house_letters, .ref a_this_house_mentions, .ref a_this_house_loads, .ref a_this_house_prices, .int v_this_house_narrow, .int v_this_house_names])), (a_this_house_loads, .inr (8, [.int (3 : Int32), .int (6 : Int32), .ref a_this_house_loads_cells, .int v_this_house_loads_rows])), (a_this_silver, .inl (cJ, 54, .inr (.inl v_this_silver)))]) (st := []) (c_X5_worstOf l D cI cJ cZ cH a_this a_this_house a_this_house_acts a_this_house_debts a_this_house_gates a_this_house_letters a_this_house_loads a_this_house_loads_cells a_this_house_mentions a_this_house_merchants a_this_house_payments a_this_house_prices a_this_house_purses a_this_house_stones a_this_house_texts a_this_house_told a_this_silver a_this_ways s_6.2.1 s_6.2.2 v_this_house_loads_rows v_this_house_names v_this_house_narrow v_this_silver s_6.1 hc_8) gzX5_61 rfl rfl rfl eV_X5_worstOf ⟨Nat.le_of_ble_eq_true rfl, Nat.le_of_ble_eq_true rfl⟩ rfl 0 rfl rfl [0, 1, 2, 3] rfl rfl rfl rfl rfl (Nat.le_of_ble_eq_true rfl) (Nat.le_refl _) (Nat.le_refl _) rfl dX5_choose_51 ?_
        refine ii_lstore_n (lv' := [(3, .long c_8), (0, .ref a_this), (1, .int x_2.1), (2, .int s_6.1)]) dX5_choose_54 rfl (by decide) rfl ?_
        refine ii_lload_n 0 dX5_choose_55 rfl ?_
        refine ii_aload_n 1 dX5_choose_56 rfl ?_
        refine ii_get (C := RX5) (T := TX5) (N := 5) (ci := 5) izX5 0 rfl rfl 0 (by decide) kX5_65 rfl dX5_choose_57 ?_
        refine ii_jn h (fun j_9 => [(a_this, .inr (5, [.long j_9.1, .int j_9.2, .ref a_this_house, .ref a_this_ways, .ref a_this_silver])), (a_this_house, .inr (0, [.ref a_this_house_merchants, .ref a_this_house_texts, .ref a_this_house_acts, .ref a_this_house_debts, .ref a_this_house_payments, .ref a_this_house_purses, .ref a_this_house_gates, .ref a_this_house_stones, .ref a_this_house_told, .ref a_this_house_letters, .ref a_this_house_mentions, .ref a_this_house_loads, .ref a_this_house_prices, .int v_this_house_narrow, .int v_this_house_names])), (a_this_house_loads, .inr (8, [.int (3 : Int32), .int (6 : Int32), .ref a_this_house_loads_cells, .int v_this_house_loads_rows])), (a_this_silver, .inl (cJ, 54, .inr (.inl v_this_silver)))]) (fun j_9 => [(0, .ref a_this), (1, .int x_2.1), (2, .int s_6.1)]) 74 (fun j_9 => []) (fun j_9 h => ?_) (fun j_9 h hjj_9 => ?_)
        · skip
          refine ii_iinc (fun x_10 => [(2, .int x_10), (0, .ref a_this), (1, .int x_2.1)]) h 2 dX5_choose_74 rfl kc1 (by decide) (fun _ => rfl) (fun x_10 h => ?_)
          refine ii_goto (tgt := 44) dX5_choose_77 (by decide) ?_
          refine ii_lv [1, 2, 0] rfl ?_
          cases h
          exact hb_6 (x_10, j_9.1, j_9.2) rfl
        · skip
          refine ii_lcmp_le (tgt := 74) h dX5_choose_60 dX5_choose_61 (by decide) (fun h => ?_) (fun h => ?_)
          · skip
            refine ii_lv [1, 2, 3] rfl ?_
            cases h
            exact hjj_9
          · skip
            refine ii_aload_n 1 dX5_choose_64 rfl ?_
            refine ii_lload_n 0 dX5_choose_65 rfl ?_
            refine ii_put (C := RX5) (T := TX5) (N := 5) (ci := 5) (ty0 := tyX5) (ws' := [(a_this, .inr (5, [.long c_8, .int s_6.2.2, .ref a_this_house, .ref a_this_ways, .ref a_this_silver])), (a_this_house, .inr (0, [.ref a_this_house_merchants, .ref a_this_house_texts, .ref a_this_house_acts, .ref a_this_house_debts, .ref a_this_house_payments, .ref a_this_house_purses, .ref a_this_house_gates, .ref a_this_house_stones, .ref a_this_house_told, .ref a_this_house_letters, .ref a_this_house_mentions, .ref a_this_house_loads, .ref a_this_house_prices, .int v_this_house_narrow, .int v_this_house_names])), (a_this_house_loads, .inr (8, [.int (3 : Int32), .int (6 : Int32), .ref a_this_house_loads_cells, .int v_this_house_loads_rows])), (a_this_silver, .inl (cJ, 54, .inr (.inl v_this_silver)))]) izX5 tyX5_ok nmX5 0 rfl rfl 0 (by decide) kX5_65 rfl rfl rfl (Nat.le_of_ble_eq_true rfl) dX5_choose_66 rfl ?_
            refine ii_aload_n 1 dX5_choose_69 rfl ?_
            refine ii_iload_n 3 dX5_choose_70 rfl ?_
            refine ii_put (C := RX5) (T := TX5) (N := 5) (ci := 5) (ty0 := tyX5) (ws' := [(a_this, .inr (5, [.long c_8, .int s_6.1, .ref a_this_house, .ref a_this_ways, .ref a_this_silver])), (a_this_house, .inr (0, [.ref a_this_house_merchants, .ref a_this_house_texts, .ref a_this_house_acts, .ref a_this_house_debts, .ref a_this_house_payments, .ref a_this_house_purses, .ref a_this_house_gates, .ref a_this_house_stones, .ref a_this_house_told, .ref a_this_house_letters, .ref a_this_house_mentions, .ref a_this_house_loads, .ref a_this_house_prices, .int v_this_house_narrow, .int v_this_house_names])), (a_this_house_loads, .inr (8, [.int (3 : Int32), .int (6 : Int32), .ref a_this_house_loads_cells, .int v_this_house_loads_rows])), (a_this_silver, .inl (cJ, 54, .inr (.inl v_this_silver)))]) izX5 tyX5_ok nmX5 0 rfl rfl 1 (by decide) kX5_58 rfl rfl rfl (Nat.le_of_ble_eq_true rfl) dX5_choose_71 rfl ?_
            refine ii_lv [1, 2, 3] rfl ?_
            cases h
            exact hjj_9
  · skip
    refine ii_iload_n 2 dX5_choose_4 rfl ?_
    refine ii_aload_n 0 dX5_choose_5 rfl ?_
    refine ii_get (C := RX5) (T := TX5) (N := 5) (ci := 5) izX5 0 rfl rfl 2 (by decide) kX5_15 rfl dX5_choose_6 ?_
    refine ii_get (C := RX0) (T := TX0) (N := 15) (ci := 0) izX0 1 rfl rfl 11 (by decide) kX5_23 rfl dX5_choose_9 ?_
    refine ii_get (C := RX8) (T := TX8) (N := 4) (ci := 8) izX8 2 rfl rfl 3 (by decide) kX5_29 rfl dX5_choose_12 ?_
    refine ii_icmp_ge (tgt := 28) h dX5_choose_15 (by decide) (fun h => ?_) (fun h => ?_)
    · skip
      refine ii_lv [0, 1] rfl ?_
      cases h
      exact hx_1 (s_1.1, s_1.2) (hr_1 _ rfl)
    · skip
      refine ii_iload_n 1 dX5_choose_18 rfl ?_
      refine ii_iconst dX5_choose_19 kc3 ?_
      refine ii_imul dX5_choose_20 ?_
      refine ii_topI h (fun x_3 h => ?_)
      refine ii_istore_n (lv' := [(1, .int x_3), (0, .ref a_this), (2, .int s_1.2)]) dX5_choose_21 rfl (by decide) rfl ?_
      refine ii_iinc (fun x_4 => [(2, .int x_4), (1, .int x_3), (0, .ref a_this)]) h 2 dX5_choose_22 rfl kc1 (by decide) (fun _ => rfl) (fun x_4 h => ?_)
      refine ii_goto (tgt := 4) dX5_choose_25 (by decide) ?_
      refine ii_lv [2, 1, 0] rfl ?_
      cases h
      exact hb_1 (x_3, x_4) rfl
set_option maxHeartbeats 4000000 in
set_option maxRecDepth 100000 in
theorem c_X5_wayOf (l : Launch) (D : va_G) (cI cJ cZ cH : ClassId) (a_this a_this_house a_this_house_acts a_this_house_debts a_this_house_gates a_this_house_letters a_this_house_loads a_this_house_loads_cells a_this_house_mentions a_this_house_merchants a_this_house_payments a_this_house_prices a_this_house_purses a_this_house_stones a_this_house_texts a_this_house_told a_this_silver a_this_ways : Nat) (v_this_best : Int64) (v_this_bestPlan : Int32) (v_this_house_loads_rows : Int32) (v_this_house_names : Int32) (v_this_house_narrow : Int32) (p0 : Int32) (p1 : Int32) {res : Int32} (h : F_X5_wayOf v_this_house_loads_rows p0 p1 = some res) : CTi l yX5_wayOf wzX5_wayOf { frames := 0, cells := 0, slots := 0, locals := 0 } D [(cI, .int), (cJ, .long), (cZ, .boolean), (cH, .object "TinHouse$House")] [.ref a_this, .int p0, .int p1] [(a_this, .inr (5, [.long v_this_best, .int v_this_bestPlan, .ref a_this_house, .ref a_this_ways, .ref a_this_silver])), (a_this_house, .inr (0, [.ref a_this_house_merchants, .ref a_this_house_texts, .ref a_this_house_acts, .ref a_this_house_debts, .ref a_this_house_payments, .ref a_this_house_purses, .ref a_this_house_gates, .ref a_this_house_stones, .ref a_this_house_told, .ref a_this_house_letters, .ref a_this_house_mentions, .ref a_this_house_loads, .ref a_this_house_prices, .int v_this_house_narrow, .int v_this_house_names])), (a_this_house_loads, .inr (8, [.int (3 : Int32), .int (6 : Int32), .ref a_this_house_loads_cells, .int v_this_house_loads_rows]))] res [(a_this, .inr (5, [.long v_this_best, .int v_this_bestPlan, .ref a_this_house, .ref a_this_ways, .ref a_this_silver])), (a_this_house, .inr (0, [.ref a_this_house_merchants, .ref a_this_house_texts, .ref a_this_house_acts, .ref a_this_house_debts, .ref a_this_house_payments, .ref a_this_house_purses, .ref a_this_house_gates, .ref a_this_house_stones, .ref a_this_house_told, .ref a_this_house_letters, .ref a_this_house_mentions, .ref a_this_house_loads, .ref a_this_house_prices, .int v_this_house_narrow, .int v_this_house_names])), (a_this_house_loads, .inr (8, [.int (3 : Int32), .int (6 : Int32), .ref a_this_house_loads_cells, .int v_this_house_loads_rows]))] := by
  unfold F_X5_wayOf at h
  refine ii_metI (own := RX5) (lv0 := [(0, .ref a_this), (1, .int p0), (2, .int p1)]) (by decide) rfl rfl rfl (Nat.le_of_ble_eq_true rfl) (fun {p e s m args below meth c A Q} hQ => ?_)
  refine ii_iload_n 1 dX5_wayOf_0 rfl ?_
  refine ii_istore_n (lv' := [(3, .int p0), (0, .ref a_this), (1, .int p0), (2, .int p1)]) dX5_wayOf_1 rfl (by decide) rfl ?_
  refine ii_aload_n 1 dX5_wayOf_2 rfl ?_
  refine ii_get (C := RX5) (T := TX5) (N := 5) (ci := 5) izX5 0 rfl rfl 2 (by decide) kX5_15 rfl dX5_wayOf_3 ?_
  refine ii_get (C := RX0) (T := TX0) (N := 15) (ci := 0) izX0 1 rfl rfl 11 (by decide) kX5_23 rfl dX5_wayOf_6 ?_
  refine ii_get (C := RX8) (T := TX8) (N := 4) (ci := 8) izX8 2 rfl rfl 3 (by decide) kX5_29 rfl dX5_wayOf_9 ?_
  refine ii_iconst dX5_wayOf_12 kc1 ?_
  refine ii_isub dX5_wayOf_13 ?_
  refine ii_topI h (fun x_1 h => ?_)
  refine ii_istore (lv' := [(4, .int x_1), (3, .int p0), (0, .ref a_this), (1, .int p0), (2, .int p1)]) dX5_wayOf_14 (by decide) rfl ?_
  refine ii_lv [4, 1, 0] rfl ?_
  obtain ⟨x_3, hl_2, h⟩ := bnd h
  refine ii_loopX (fun s_2 => [(a_this, .inr (5, [.long v_this_best, .int v_this_bestPlan, .ref a_this_house, .ref a_this_ways, .ref a_this_silver])), (a_this_house, .inr (0, [.ref a_this_house_merchants, .ref a_this_house_texts, .ref a_this_house_acts, .ref a_this_house_debts, .ref a_this_house_payments, .ref a_this_house_purses, .ref a_this_house_gates, .ref a_this_house_stones, .ref a_this_house_told, .ref a_this_house_letters, .ref a_this_house_mentions, .ref a_this_house_loads, .ref a_this_house_prices, .int v_this_house_narrow, .int v_this_house_names])), (a_this_house_loads, .inr (8, [.int (3 : Int32), .int (6 : Int32), .ref a_this_house_loads_cells, .int v_this_house_loads_rows]))]) (fun s_2 => [(2, .int p1), (3, .int s_2.1), (4, .int s_2.2)]) (fun x_3 => [(a_this, .inr (5, [.long v_this_best, .int v_this_bestPlan, .ref a_this_house, .ref a_this_ways, .ref a_this_silver])), (a_this_house, .inr (0, [.ref a_this_house_merchants, .ref a_this_house_texts, .ref a_this_house_acts, .ref a_this_house_debts, .ref a_this_house_payments, .ref a_this_house_purses, .ref a_this_house_gates, .ref a_this_house_stones, .ref a_this_house_told, .ref a_this_house_letters, .ref a_this_house_mentions, .ref a_this_house_loads, .ref a_this_house_prices, .int v_this_house_narrow, .int v_this_house_names])), (a_this_house_loads, .inr (8, [.int (3 : Int32), .int (6 : Int32), .ref a_this_house_loads_cells, .int v_this_house_loads_rows]))]) (fun x_3 => [(3, .int x_3.1)]) 32 hl_2 rfl rfl ?_ (fun s_2 o h hb_2 hr_2 hx_2 => ?_)
  · skip
    refine ii_iload_n 0 dX5_wayOf_32 rfl ?_
    refine ii_iconst dX5_wayOf_33 kc3 ?_
    refine ii_irem h dX5_wayOf_34 (fun t_6 h => ?_)
    cases h
    exact hQ _ _ dX5_wayOf_35
  · skip
    refine ii_iload 2 dX5_wayOf_16 rfl ?_
    refine ii_iload_n 0 dX5_wayOf_18 rfl ?_
    refine ii_icmp_le (tgt := 32) h dX5_wayOf_19 (by decide) (fun h => ?_) (fun h => ?_)
    · skip
      refine ii_lv [1] rfl ?_
      cases h
      exact hx_2 (s_2.1, s_2.2) (hr_2 _ rfl)
    · skip
      refine ii_iload_n 1 dX5_wayOf_22 rfl ?_
      refine ii_iconst dX5_wayOf_23 kc3 ?_
      refine ii_idiv h dX5_wayOf_24 (fun t_4 h => ?_)
      refine ii_istore_n (lv' := [(3, .int t_4), (2, .int p1), (4, .int s_2.2)]) dX5_wayOf_25 rfl (by decide) rfl ?_
      refine ii_iinc (fun x_5 => [(4, .int x_5), (3, .int t_4), (2, .int p1)]) h 2 dX5_wayOf_26 rfl kcm1 (by decide) (fun _ => rfl) (fun x_5 h => ?_)
      refine ii_goto (tgt := 16) dX5_wayOf_29 (by decide) ?_
      refine ii_lv [2, 1, 0] rfl ?_
      cases h
      exact hb_2 (t_4, x_5) rfl
