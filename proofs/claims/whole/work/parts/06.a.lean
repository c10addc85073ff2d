set_option maxHeartbeats 4000000 in
set_option maxRecDepth 100000 in
theorem c_X8_become (l : Launch) (D : va_G) (cI cJ cZ cH : ClassId) (a_p0 a_p0_cells a_this a_this_cells : Nat) (n_p0_cells n_this_cells : Nat) (v_p0_cells : Nat → Int32) (v_p0_limit : Int32) (v_p0_rows : Int32) (v_p0_width : Int32) (v_this_cells : Nat → Int32) (v_this_limit : Int32) (v_this_rows : Int32) (v_this_width : Int32) {res : (Nat → Int32) × Int32} (h : F_X8_become n_p0_cells n_this_cells v_p0_cells v_p0_rows v_p0_width v_this_cells v_this_rows = some res) : CTv l yX8_become wzX8_become { frames := 1, cells := 0, slots := 0, locals := 60 } D [(cI, .int), (cJ, .long), (cZ, .boolean), (cH, .object "TinHouse$House")] [.ref a_this, .ref a_p0] [(a_p0, .inr (8, [.int v_p0_width, .int v_p0_limit, .ref a_p0_cells, .int v_p0_rows])), (a_p0_cells, .inl (cI, n_p0_cells, .inl v_p0_cells)), (a_this, .inr (8, [.int v_this_width, .int v_this_limit, .ref a_this_cells, .int v_this_rows])), (a_this_cells, .inl (cI, n_this_cells, .inl v_this_cells))] [(a_p0, .inr (8, [.int v_p0_width, .int v_p0_limit, .ref a_p0_cells, .int v_p0_rows])), (a_p0_cells, .inl (cI, n_p0_cells, .inl v_p0_cells)), (a_this, .inr (8, [.int v_this_width, .int v_this_limit, .ref a_this_cells, .int res.2])), (a_this_cells, .inl (cI, n_this_cells, .inl res.1))] := by
  unfold F_X8_become at h
  refine ii_metV (own := RX8) (lv0 := [(0, .ref a_this), (1, .ref a_p0)]) (by decide) rfl rfl rfl (Nat.le_of_ble_eq_true rfl) (fun {p e s m args below meth c A Q} hQ => ?_)
  refine ii_aload_n 1 dX8_become_0 rfl ?_
  refine ii_get (C := RX8) (T := TX8) (N := 4) (ci := 8) izX8 0 rfl rfl 3 (by decide) kX8_28 rfl dX8_become_1 ?_
  refine ii_aload_n 1 dX8_become_4 rfl ?_
  refine ii_get (C := RX8) (T := TX8) (N := 4) (ci := 8) izX8 0 rfl rfl 0 (by decide) kX8_15 rfl dX8_become_5 ?_
  refine ii_imul dX8_become_8 ?_
  refine ii_aload_n 1 dX8_become_9 rfl ?_
  refine ii_get (C := RX8) (T := TX8) (N := 4) (ci := 8) izX8 0 rfl rfl 2 (by decide) kX8_24 rfl dX8_become_10 ?_
  refine ii_alen (v := Int32.ofNat n_p0_cells) 1 0 rfl rfl rfl dX8_become_13 ?_
  refine ii_aload_n 0 dX8_become_14 rfl ?_
  refine ii_get (C := RX8) (T := TX8) (N := 4) (ci := 8) izX8 2 rfl rfl 2 (by decide) kX8_24 rfl dX8_become_15 ?_
  refine ii_alen (v := Int32.ofNat n_this_cells) 3 0 rfl rfl rfl dX8_become_18 ?_
  refine ii_mmin mX8_42 ms_min mi_Math mc_min (Nat.le_of_ble_eq_true rfl) (Nat.le_of_ble_eq_true rfl) (Nat.le_refl _) (Nat.le_refl _) dX8_become_19 ?_
  refine ii_mmin mX8_42 ms_min mi_Math mc_min (Nat.le_of_ble_eq_true rfl) (Nat.le_of_ble_eq_true rfl) (Nat.le_refl _) (Nat.le_refl _) dX8_become_22 ?_
  refine ii_topI h (fun x_1 h => ?_)
  refine ii_istore_n (lv' := [(2, .int x_1), (0, .ref a_this), (1, .ref a_p0)]) dX8_become_25 rfl (by decide) rfl ?_
  refine ii_aload_n 2 dX8_become_26 rfl ?_
  refine ii_get (C := RX8) (T := TX8) (N := 4) (ci := 8) izX8 0 rfl rfl 2 (by decide) kX8_24 rfl dX8_become_27 ?_
  refine ii_iconst dX8_become_30 kc0 ?_
  refine ii_aload_n 1 dX8_become_31 rfl ?_
  refine ii_get (C := RX8) (T := TX8) (N := 4) (ci := 8) izX8 2 rfl rfl 2 (by decide) kX8_24 rfl dX8_become_32 ?_
  refine ii_iconst dX8_become_35 kc0 ?_
  refine ii_iconst dX8_become_36 kc0 ?_
  refine ii_iload_n 0 dX8_become_37 rfl ?_
  refine ii_mmax mX8_18 ms_max mi_Math mc_max (Nat.le_of_ble_eq_true rfl) (Nat.le_of_ble_eq_true rfl) (Nat.le_refl _) (Nat.le_refl _) dX8_become_38 ?_
  refine ii_copyI (fun g_2 => [(a_p0, .inr (8, [.int v_p0_width, .int v_p0_limit, .ref a_p0_cells, .int v_p0_rows])), (a_p0_cells, .inl (cI, n_p0_cells, .inl v_p0_cells)), (a_this, .inr (8, [.int v_this_width, .int v_this_limit, .ref a_this_cells, .int v_this_rows])), (a_this_cells, .inl (cI, n_this_cells, .inl g_2))]) h mX8_45 mn_copy ms_copy mi_System 1 3 0 rfl rfl rfl (Nat.le_of_ble_eq_true rfl) (Nat.le_of_ble_eq_true rfl) dX8_become_41 (fun _ => rfl) (fun g_2 h => ?_)
  refine ii_aload_n 1 dX8_become_44 rfl ?_
  refine ii_aload_n 2 dX8_become_45 rfl ?_
  refine ii_get (C := RX8) (T := TX8) (N := 4) (ci := 8) izX8 0 rfl rfl 3 (by decide) kX8_28 rfl dX8_become_46 ?_
  refine ii_put (C := RX8) (T := TX8) (N := 4) (ci := 8) (ty0 := tyX8) (ws' := [(a_p0, .inr (8, [.int v_p0_width, .int v_p0_limit, .ref a_p0_cells, .int v_p0_rows])), (a_p0_cells, .inl (cI, n_p0_cells, .inl v_p0_cells)), (a_this, .inr (8, [.int v_this_width, .int v_this_limit, .ref a_this_cells, .int v_p0_rows])), (a_this_cells, .inl (cI, n_this_cells, .inl g_2))]) izX8 tyX8_ok nmX8 2 rfl rfl 3 (by decide) kX8_28 rfl rfl rfl (Nat.le_of_ble_eq_true rfl) dX8_become_49 rfl ?_
  cases h
  exact hQ _ _ dX8_become_52
set_option maxHeartbeats 4000000 in
set_option maxRecDepth 100000 in
theorem c_X8_placeOf (l : Launch) (D : va_G) (cI cJ cZ cH : ClassId) (a_this a_this_cells : Nat) (v_this_limit : Int32) (v_this_rows : Int32) (v_this_width : Int32) (p0 : Int32) (p1 : Int32) {res : Int32} (h : F_X8_placeOf v_this_rows v_this_width p0 p1 = some res) : CTi l yX8_placeOf wzX8_placeOf { frames := 0, cells := 0, slots := 0, locals := 0 } D [(cI, .int), (cJ, .long), (cZ, .boolean), (cH, .object "TinHouse$House")] [.ref a_this, .int p0, .int p1] [(a_this, .inr (8, [.int v_this_width, .int v_this_limit, .ref a_this_cells, .int v_this_rows]))] res [(a_this, .inr (8, [.int v_this_width, .int v_this_limit, .ref a_this_cells, .int v_this_rows]))] := by
  unfold F_X8_placeOf at h
  refine ii_metI (own := RX8) (lv0 := [(0, .ref a_this), (1, .int p0), (2, .int p1)]) (by decide) rfl rfl rfl (Nat.le_of_ble_eq_true rfl) (fun {p e s m args below meth c A Q} hQ => ?_)
  refine ii_iload_n 1 dX8_placeOf_0 rfl ?_
  refine ii_jn h (fun j_1 => [(a_this, .inr (8, [.int v_this_width, .int v_this_limit, .ref a_this_cells, .int v_this_rows]))]) (fun j_1 => [(0, .ref a_this), (1, .int p0), (2, .int p1)]) 29 (fun j_1 => [.int j_1]) (fun j_1 h => ?_) (fun j_1 h hjj_1 => ?_)
  · skip
    refine ii_istore_n (lv' := [(3, .int j_1), (0, .ref a_this), (1, .int p0), (2, .int p1)]) dX8_placeOf_29 rfl (by decide) rfl ?_
    refine ii_iload_n 0 dX8_placeOf_30 rfl ?_
    refine ii_jn h (fun j_2 => [(a_this, .inr (8, [.int v_this_width, .int v_this_limit, .ref a_this_cells, .int v_this_rows]))]) (fun j_2 => []) 46 (fun j_2 => [.int j_2]) (fun j_2 h => ?_) (fun j_2 h hjj_2 => ?_)
    · skip
      cases h
      exact hQ _ _ dX8_placeOf_46
    · skip
      refine ii_if_eq (tgt := 45) h dX8_placeOf_31 (by decide) (fun h => ?_) (fun h => ?_)
      · skip
        refine ii_iconst dX8_placeOf_45 kcm1 ?_
        refine ii_lv [] rfl ?_
        cases h
        exact hjj_2
      · skip
        refine ii_iload_n 2 dX8_placeOf_34 rfl ?_
        refine ii_aload_n 1 dX8_placeOf_35 rfl ?_
        refine ii_get (C := RX8) (T := TX8) (N := 4) (ci := 8) izX8 0 rfl rfl 0 (by decide) kX8_15 rfl dX8_placeOf_36 ?_
        refine ii_imul dX8_placeOf_39 ?_
        refine ii_iload_n 3 dX8_placeOf_40 rfl ?_
        refine ii_iadd dX8_placeOf_41 ?_
        refine ii_goto (tgt := 46) dX8_placeOf_42 (by decide) ?_
        refine ii_lv [] rfl ?_
        cases h
        exact hjj_2
  · skip
    refine ii_if_lt (tgt := 28) h dX8_placeOf_1 (by decide) (fun h => ?_) (fun h => ?_)
    · skip
      refine ii_iconst dX8_placeOf_28 kc0 ?_
      cases h
      exact hjj_1
    · skip
      refine ii_iload_n 1 dX8_placeOf_4 rfl ?_
      refine ii_aload_n 0 dX8_placeOf_5 rfl ?_
      refine ii_get (C := RX8) (T := TX8) (N := 4) (ci := 8) izX8 0 rfl rfl 3 (by decide) kX8_28 rfl dX8_placeOf_6 ?_
      refine ii_icmp_ge (tgt := 28) h dX8_placeOf_9 (by decide) (fun h => ?_) (fun h => ?_)
      · skip
        refine ii_iconst dX8_placeOf_28 kc0 ?_
        cases h
        exact hjj_1
      · skip
        refine ii_iload_n 2 dX8_placeOf_12 rfl ?_
        refine ii_if_lt (tgt := 28) h dX8_placeOf_13 (by decide) (fun h => ?_) (fun h => ?_)
        · skip
          refine ii_iconst dX8_placeOf_28 kc0 ?_
          cases h
          exact hjj_1
        · skip
          refine ii_iload_n 2 dX8_placeOf_16 rfl ?_
          refine ii_aload_n 0 dX8_placeOf_17 rfl ?_
          refine ii_get (C := RX8) (T := TX8) (N := 4) (ci := 8) izX8 0 rfl rfl 0 (by decide) kX8_15 rfl dX8_placeOf_18 ?_
          refine ii_icmp_ge (tgt := 28) h dX8_placeOf_21 (by decide) (fun h => ?_) (fun h => ?_)
          · skip
            refine ii_iconst dX8_placeOf_28 kc0 ?_
            cases h
            exact hjj_1
          · skip
            refine ii_iconst dX8_placeOf_24 kc1 ?_
            refine ii_goto (tgt := 29) dX8_placeOf_25 (by decide) ?_
            cases h
            exact hjj_1
set_option maxHeartbeats 4000000 in
set_option maxRecDepth 100000 in
theorem c_X8_get (l : Launch) (D : va_G) (cI cJ cZ cH : ClassId) (a_this a_this_cells : Nat) (n_this_cells : Nat) (v_this_cells : Nat → Int32) (v_this_limit : Int32) (v_this_rows : Int32) (v_this_width : Int32) (p0 : Int32) (p1 : Int32) {res : Int32} (h : F_X8_get n_this_cells v_this_cells v_this_rows v_this_width p0 p1 = some res) : CTi l yX8_get wzX8_get { frames := 1, cells := 0, slots := 0, locals := 23 } D [(cI, .int), (cJ, .long), (cZ, .boolean), (cH, .object "TinHouse$House")] [.ref a_this, .int p0, .int p1] [(a_this, .inr (8, [.int v_this_width, .int v_this_limit, .ref a_this_cells, .int v_this_rows])), (a_this_cells, .inl (cI, n_this_cells, .inl v_this_cells))] res [(a_this, .inr (8, [.int v_this_width, .int v_this_limit, .ref a_this_cells, .int v_this_rows])), (a_this_cells, .inl (cI, n_this_cells, .inl v_this_cells))] := by
  unfold F_X8_get at h
  refine ii_metI (own := RX8) (lv0 := [(0, .ref a_this), (1, .int p0), (2, .int p1)]) (by decide) rfl rfl rfl (Nat.le_of_ble_eq_true rfl) (fun {p e s m args below meth c A Q} hQ => ?_)
  refine ii_aload_n 0 dX8_get_0 rfl ?_
  refine ii_iload_n 1 dX8_get_1 rfl ?_
  refine ii_iload_n 2 dX8_get_2 rfl ?_
  obtain ⟨c_1, hc_1, h⟩ := bnd h
  refine ii_callVi (As := [.int p0, .int p1]) (ws' := [(a_this, .inr (8, [.int v_this_width, .int v_this_limit, .ref a_this_cells, .int v_this_rows])), (a_this_cells, .inl (cI, n_this_cells, .inl v_this_cells))]) (st := []) (c_X8_placeOf l D cI cJ cZ cH a_this a_this_cells v_this_limit v_this_rows v_this_width p0 p1 hc_1) gzX8_31 rfl rfl rfl eV_X8_placeOf ⟨Nat.le_of_ble_eq_true rfl, Nat.le_of_ble_eq_true rfl⟩ rfl 0 rfl rfl [0] rfl rfl rfl rfl rfl (Nat.le_of_ble_eq_true rfl) (Nat.le_refl _) (Nat.le_refl _) rfl dX8_get_3 ?_
  refine ii_istore_n (lv' := [(3, .int c_1), (0, .ref a_this), (1, .int p0), (2, .int p1)]) dX8_get_6 rfl (by decide) rfl ?_
  refine ii_iload_n 0 dX8_get_7 rfl ?_
  refine ii_jn h (fun j_2 => [(a_this, .inr (8, [.int v_this_width, .int v_this_limit, .ref a_this_cells, .int v_this_rows])), (a_this_cells, .inl (cI, n_this_cells, .inl v_this_cells))]) (fun j_2 => []) 30 (fun j_2 => [.int j_2]) (fun j_2 h => ?_) (fun j_2 h hjj_2 => ?_)
  · skip
    cases h
    exact hQ _ _ dX8_get_30
  · skip
    refine ii_if_lt (tgt := 29) h dX8_get_8 (by decide) (fun h => ?_) (fun h => ?_)
    · skip
      refine ii_iconst dX8_get_29 kc0 ?_
      refine ii_lv [] rfl ?_
      cases h
      exact hjj_2
    · skip
      refine ii_iload_n 0 dX8_get_11 rfl ?_
      refine ii_aload_n 1 dX8_get_12 rfl ?_
      refine ii_get (C := RX8) (T := TX8) (N := 4) (ci := 8) izX8 0 rfl rfl 2 (by decide) kX8_24 rfl dX8_get_13 ?_
      refine ii_alen (v := Int32.ofNat n_this_cells) 1 0 rfl rfl rfl dX8_get_16 ?_
      refine ii_icmp_ge (tgt := 29) h dX8_get_17 (by decide) (fun h => ?_) (fun h => ?_)
      · skip
        refine ii_iconst dX8_get_29 kc0 ?_
        refine ii_lv [] rfl ?_
        cases h
        exact hjj_2
      · skip
        refine ii_aload_n 1 dX8_get_20 rfl ?_
        refine ii_get (C := RX8) (T := TX8) (N := 4) (ci := 8) izX8 0 rfl rfl 2 (by decide) kX8_24 rfl dX8_get_21 ?_
        refine ii_iload_n 0 dX8_get_24 rfl ?_
        refine ii_iald h 1 0 rfl rfl dX8_get_25 (fun t_3 h => ?_)
        refine ii_goto (tgt := 30) dX8_get_26 (by decide) ?_
        refine ii_lv [] rfl ?_
        cases h
        exact hjj_2
set_option maxHeartbeats 4000000 in
set_option maxRecDepth 100000 in
theorem c_X8_mixRow (l : Launch) (D : va_G) (cI cJ cZ cH : ClassId) (a_this a_this_cells : Nat) (n_this_cells : Nat) (v_this_cells : Nat → Int32) (v_this_limit : Int32) (v_this_rows : Int32) (v_this_width : Int32) (p0 : Int64) (p1 : Int32) (p2 : Int32) {res : Int64} (h : F_X8_mixRow n_this_cells v_this_cells v_this_rows v_this_width p0 p1 p2 = some res) : CTl l yX8_mixRow wzX8_mixRow { frames := 2, cells := 0, slots := 0, locals := 46 } D [(cI, .int), (cJ, .long), (cZ, .boolean), (cH, .object "TinHouse$House")] [.ref a_this, .long p0, .int p1, .int p2] [(a_this, .inr (8, [.int v_this_width, .int v_this_limit, .ref a_this_cells, .int v_this_rows])), (a_this_cells, .inl (cI, n_this_cells, .inl v_this_cells))] res [(a_this, .inr (8, [.int v_this_width, .int v_this_limit, .ref a_this_cells, .int v_this_rows])), (a_this_cells, .inl (cI, n_this_cells, .inl v_this_cells))] := by
  unfold F_X8_mixRow at h
  refine ii_metL (own := RX8) (lv0 := [(0, .ref a_this), (1, .long p0), (3, .int p1), (4, .int p2)]) (by decide) rfl rfl rfl (Nat.le_of_ble_eq_true rfl) (fun {p e s m args below meth c A Q} hQ => ?_)
  refine ii_lload_n 1 dX8_mixRow_0 rfl ?_
  refine ii_lstore (lv' := [(5, .long p0), (0, .ref a_this), (1, .long p0), (3, .int p1), (4, .int p2)]) dX8_mixRow_1 (by decide) rfl ?_
  refine ii_iconst dX8_mixRow_3 kc0 ?_
  refine ii_istore (lv' := [(7, .int (0 : Int32)), (5, .long p0), (0, .ref a_this), (1, .long p0), (3, .int p1), (4, .int p2)]) dX8_mixRow_4 (by decide) rfl ?_
  refine ii_lv [2, 4, 5, 1, 0] rfl ?_
  obtain ⟨x_2, hl_1, h⟩ := bnd h
  refine ii_loopX (fun s_1 => [(a_this, .inr (8, [.int v_this_width, .int v_this_limit, .ref a_this_cells, .int v_this_rows])), (a_this_cells, .inl (cI, n_this_cells, .inl v_this_cells))]) (fun s_1 => [(0, .ref a_this), (3, .int p1), (4, .int p2), (5, .long s_1.1), (7, .int s_1.2)]) (fun x_2 => [(a_this, .inr (8, [.int v_this_width, .int v_this_limit, .ref a_this_cells, .int v_this_rows])), (a_this_cells, .inl (cI, n_this_cells, .inl v_this_cells))]) (fun x_2 => [(5, .long x_2.1)]) 45 hl_1 rfl rfl ?_ (fun s_1 o h hb_1 hr_1 hx_1 => ?_)
  · skip
    refine ii_lload 0 dX8_mixRow_45 rfl ?_
    cases h
    exact hQ _ _ dX8_mixRow_47
  · skip
    refine ii_iload 4 dX8_mixRow_6 rfl ?_
    refine ii_iload 2 dX8_mixRow_8 rfl ?_
    refine ii_icmp_ge (tgt := 45) h dX8_mixRow_10 (by decide) (fun h => ?_) (fun h => ?_)
    · skip
      refine ii_lv [3] rfl ?_
      cases h
      exact hx_1 (s_1.1, s_1.2) (hr_1 _ rfl)
    · skip
      refine ii_iload 4 dX8_mixRow_13 rfl ?_
      refine ii_aload_n 0 dX8_mixRow_15 rfl ?_
      refine ii_get (C := RX8) (T := TX8) (N := 4) (ci := 8) izX8 0 rfl rfl 0 (by decide) kX8_15 rfl dX8_mixRow_16 ?_
      refine ii_icmp_ge (tgt := 45) h dX8_mixRow_19 (by decide) (fun h => ?_) (fun h => ?_)
      · skip
        refine ii_lv [3] rfl ?_
        cases h
        exact hx_1 (s_1.1, s_1.2) (hr_1 _ rfl)
      · skip
        refine ii_ldc2 (v := 31) dX8_mixRow_22 kX8_58 ?_
        refine ii_lload 3 dX8_mixRow_25 rfl ?_
        refine ii_lmul dX8_mixRow_27 ?_
        refine ii_aload_n 0 dX8_mixRow_28 rfl ?_
        refine ii_iload_n 1 dX8_mixRow_29 rfl ?_
        refine ii_iload 4 dX8_mixRow_30 rfl ?_
        obtain ⟨c_3, hc_3, h⟩ := bnd h
        refine ii_callVi (As := [.int p1, .int s_1.2]) (ws' := [(a_this, .inr (8, [.int v_this_width, .int v_this_limit, .ref a_this_cells, .int v_this_rows])), (a_this_cells, .inl (cI, n_this_cells, .inl v_this_cells))]) (st := [.long ((31 : Int64) * s_1.1)]) (c_X8_get l D cI cJ cZ cH a_this a_this_cells n_this_cells v_this_cells v_this_limit v_this_rows v_this_width p1 s_1.2 hc_3) gzX8_55 rfl rfl rfl eV_X8_get ⟨Nat.le_of_ble_eq_true rfl, Nat.le_of_ble_eq_true rfl⟩ rfl 0 rfl rfl [0, 1] rfl rfl rfl rfl rfl (Nat.le_of_ble_eq_true rfl) (Nat.le_refl _) (Nat.le_refl _) rfl dX8_mixRow_32 ?_
        refine ii_i2l dX8_mixRow_35 ?_
        refine ii_ladd dX8_mixRow_36 ?_
        refine ii_topL h (fun x_4 h => ?_)
        refine ii_lstore (lv' := [(5, .long x_4), (0, .ref a_this), (3, .int p1), (4, .int p2), (7, .int s_1.2)]) dX8_mixRow_37 (by decide) rfl ?_
        refine ii_iinc (fun x_5 => [(7, .int x_5), (5, .long x_4), (0, .ref a_this), (3, .int p1), (4, .int p2)]) h 4 dX8_mixRow_39 rfl kc1 (by decide) (fun _ => rfl) (fun x_5 h => ?_)
        refine ii_goto (tgt := 6) dX8_mixRow_42 (by decide) ?_
        refine ii_lv [2, 3, 4, 1, 0] rfl ?_
        cases h
        exact hb_1 (x_4, x_5) rfl
set_option maxHeartbeats 4000000 in
set_option maxRecDepth 100000 in
theorem c_X8_mixAll (l : Launch) (D : va_G) (cI cJ cZ cH : ClassId) (a_this a_this_cells : Nat) (n_this_cells : Nat) (v_this_cells : Nat → Int32) (v_this_limit : Int32) (v_this_rows : Int32) (v_this_width : Int32) (p0 : Int64) (p1 : Int32) {res : Int64} (h : F_X8_mixAll n_this_cells v_this_cells v_this_rows v_this_width p0 p1 = some res) : CTl l yX8_mixAll wzX8_mixAll { frames := 3, cells := 0, slots := 0, locals := 73 } D [(cI, .int), (cJ, .long), (cZ, .boolean), (cH, .object "TinHouse$House")] [.ref a_this, .long p0, .int p1] [(a_this, .inr (8, [.int v_this_width, .int v_this_limit, .ref a_this_cells, .int v_this_rows])), (a_this_cells, .inl (cI, n_this_cells, .inl v_this_cells))] res [(a_this, .inr (8, [.int v_this_width, .int v_this_limit, .ref a_this_cells, .int v_this_rows])), (a_this_cells, .inl (cI, n_this_cells, .inl v_this_cells))] := by
  unfold F_X8_mixAll at h
  refine ii_metL (own := RX8) (lv0 := [(0, .ref a_this), (1, .long p0), (3, .int p1)]) (by decide) rfl rfl rfl (Nat.le_of_ble_eq_true rfl) (fun {p e s m args below meth c A Q} hQ => ?_)
  refine ii_lload_n 1 dX8_mixAll_0 rfl ?_
  refine ii_lstore (lv' := [(4, .long p0), (0, .ref a_this), (1, .long p0), (3, .int p1)]) dX8_mixAll_1 (by decide) rfl ?_
  refine ii_iconst dX8_mixAll_3 kc0 ?_
  refine ii_istore (lv' := [(6, .int (0 : Int32)), (4, .long p0), (0, .ref a_this), (1, .long p0), (3, .int p1)]) dX8_mixAll_4 (by decide) rfl ?_
  refine ii_lv [2, 4, 1, 0] rfl ?_
  obtain ⟨x_2, hl_1, h⟩ := bnd h
  refine ii_loopX (fun s_1 => [(a_this, .inr (8, [.int v_this_width, .int v_this_limit, .ref a_this_cells, .int v_this_rows])), (a_this_cells, .inl (cI, n_this_cells, .inl v_this_cells))]) (fun s_1 => [(0, .ref a_this), (3, .int p1), (4, .long s_1.1), (6, .int s_1.2)]) (fun x_2 => [(a_this, .inr (8, [.int v_this_width, .int v_this_limit, .ref a_this_cells, .int v_this_rows])), (a_this_cells, .inl (cI, n_this_cells, .inl v_this_cells))]) (fun x_2 => [(4, .long x_2.1)]) 32 hl_1 rfl rfl ?_ (fun s_1 o h hb_1 hr_1 hx_1 => ?_)
  · skip
    refine ii_lload 0 dX8_mixAll_32 rfl ?_
    cases h
    exact hQ _ _ dX8_mixAll_34
  · skip
    refine ii_iload 3 dX8_mixAll_6 rfl ?_
    refine ii_aload_n 0 dX8_mixAll_8 rfl ?_
    refine ii_get (C := RX8) (T := TX8) (N := 4) (ci := 8) izX8 0 rfl rfl 3 (by decide) kX8_28 rfl dX8_mixAll_9 ?_
    refine ii_icmp_ge (tgt := 32) h dX8_mixAll_12 (by decide) (fun h => ?_) (fun h => ?_)
    · skip
      refine ii_lv [2] rfl ?_
      cases h
      exact hx_1 (s_1.1, s_1.2) (hr_1 _ rfl)
    · skip
      refine ii_aload_n 0 dX8_mixAll_15 rfl ?_
      refine ii_lload 2 dX8_mixAll_16 rfl ?_
      refine ii_iload 3 dX8_mixAll_18 rfl ?_
      refine ii_iload_n 1 dX8_mixAll_20 rfl ?_
      obtain ⟨c_3, hc_3, h⟩ := bnd h
      refine ii_callVl (As := [.long s_1.1, .int s_1.2, .int p1]) (ws' := [(a_this, .inr (8, [.int v_this_width, .int v_this_limit, .ref a_this_cells, .int v_this_rows])), (a_this_cells, .inl (cI, n_this_cells, .inl v_this_cells))]) (st := []) (c_X8_mixRow l D cI cJ cZ cH a_this a_this_cells n_this_cells v_this_cells v_this_limit v_this_rows v_this_width s_1.1 s_1.2 p1 hc_3) gzX8_51 rfl rfl rfl eV_X8_mixRow ⟨Nat.le_of_ble_eq_true rfl, Nat.le_of_ble_eq_true rfl⟩ rfl 0 rfl rfl [0, 1] rfl rfl rfl rfl rfl (Nat.le_of_ble_eq_true rfl) (Nat.le_refl _) (Nat.le_refl _) rfl dX8_mixAll_21 ?_
      refine ii_lstore (lv' := [(4, .long c_3), (0, .ref a_this), (3, .int p1), (6, .int s_1.2)]) dX8_mixAll_24 (by decide) rfl ?_
      refine ii_iinc (fun x_4 => [(6, .int x_4), (4, .long c_3), (0, .ref a_this), (3, .int p1)]) h 3 dX8_mixAll_26 rfl kc1 (by decide) (fun _ => rfl) (fun x_4 h => ?_)
      refine ii_goto (tgt := 6) dX8_mixAll_29 (by decide) ?_
      refine ii_lv [2, 3, 1, 0] rfl ?_
      cases h
      exact hb_1 (c_3, x_4) rfl
set_option maxHeartbeats 4000000 in
set_option maxRecDepth 100000 in
theorem c_X8_mixTexts (l : Launch) (D : va_G) (cI cJ cZ cH : ClassId) (a_this a_this_cells : Nat) (n_this_cells : Nat) (v_this_cells : Nat → Int32) (v_this_limit : Int32) (v_this_rows : Int32) (v_this_width : Int32) (p0 : Int64) (p1 : Int32) {res : Int64} (h : F_X8_mixTexts n_this_cells v_this_cells v_this_rows v_this_width p0 p1 = some res) : CTl l yX8_mixTexts wzX8_mixTexts { frames := 3, cells := 0, slots := 0, locals := 73 } D [(cI, .int), (cJ, .long), (cZ, .boolean), (cH, .object "TinHouse$House")] [.ref a_this, .long p0, .int p1] [(a_this, .inr (8, [.int v_this_width, .int v_this_limit, .ref a_this_cells, .int v_this_rows])), (a_this_cells, .inl (cI, n_this_cells, .inl v_this_cells))] res [(a_this, .inr (8, [.int v_this_width, .int v_this_limit, .ref a_this_cells, .int v_this_rows])), (a_this_cells, .inl (cI, n_this_cells, .inl v_this_cells))] := by
  unfold F_X8_mixTexts at h
  refine ii_metL (own := RX8) (lv0 := [(0, .ref a_this), (1, .long p0), (3, .int p1)]) (by decide) rfl rfl rfl (Nat.le_of_ble_eq_true rfl) (fun {p e s m args below meth c A Q} hQ => ?_)
  refine ii_lload_n 1 dX8_mixTexts_0 rfl ?_
  refine ii_lstore (lv' := [(4, .long p0), (0, .ref a_this), (1, .long p0), (3, .int p1)]) dX8_mixTexts_1 (by decide) rfl ?_
  refine ii_iconst dX8_mixTexts_3 kc0 ?_
  refine ii_istore (lv' := [(6, .int (0 : Int32)), (4, .long p0), (0, .ref a_this), (1, .long p0), (3, .int p1)]) dX8_mixTexts_4 (by decide) rfl ?_
  refine ii_lv [2, 4, 1, 0] rfl ?_
  obtain ⟨x_2, hl_1, h⟩ := bnd h
  refine ii_loopX (fun s_1 => [(a_this, .inr (8, [.int v_this_width, .int v_this_limit, .ref a_this_cells, .int v_this_rows])), (a_this_cells, .inl (cI, n_this_cells, .inl v_this_cells))]) (fun s_1 => [(0, .ref a_this), (3, .int p1), (4, .long s_1.1), (6, .int s_1.2)]) (fun x_2 => [(a_this, .inr (8, [.int v_this_width, .int v_this_limit, .ref a_this_cells, .int v_this_rows])), (a_this_cells, .inl (cI, n_this_cells, .inl v_this_cells))]) (fun x_2 => [(4, .long x_2.1)]) 42 hl_1 rfl rfl ?_ (fun s_1 o h hb_1 hr_1 hx_1 => ?_)
  · skip
    refine ii_lload 0 dX8_mixTexts_42 rfl ?_
    cases h
    exact hQ _ _ dX8_mixTexts_44
  · skip
    refine ii_iload 3 dX8_mixTexts_6 rfl ?_
    refine ii_aload_n 0 dX8_mixTexts_8 rfl ?_
    refine ii_get (C := RX8) (T := TX8) (N := 4) (ci := 8) izX8 0 rfl rfl 3 (by decide) kX8_28 rfl dX8_mixTexts_9 ?_
    refine ii_icmp_ge (tgt := 42) h dX8_mixTexts_12 (by decide) (fun h => ?_) (fun h => ?_)
    · skip
      refine ii_lv [2] rfl ?_
      cases h
      exact hx_1 (s_1.1, s_1.2) (hr_1 _ rfl)
    · skip
      refine ii_aload_n 0 dX8_mixTexts_15 rfl ?_
      refine ii_lload 2 dX8_mixTexts_16 rfl ?_
      refine ii_iload 3 dX8_mixTexts_18 rfl ?_
      refine ii_iload_n 1 dX8_mixTexts_20 rfl ?_
      refine ii_iconst dX8_mixTexts_21 kc1 ?_
      refine ii_iadd dX8_mixTexts_22 ?_
      refine ii_aload_n 0 dX8_mixTexts_23 rfl ?_
      refine ii_iload 3 dX8_mixTexts_24 rfl ?_
      refine ii_iload_n 1 dX8_mixTexts_26 rfl ?_
      obtain ⟨c_3, hc_3, h⟩ := bnd h
      refine ii_callVi (As := [.int s_1.2, .int p1]) (ws' := [(a_this, .inr (8, [.int v_this_width, .int v_this_limit, .ref a_this_cells, .int v_this_rows])), (a_this_cells, .inl (cI, n_this_cells, .inl v_this_cells))]) (st := [.int (p1 + (1 : Int32)), .int s_1.2, .long s_1.1, .ref a_this]) (c_X8_get l D cI cJ cZ cH a_this a_this_cells n_this_cells v_this_cells v_this_limit v_this_rows v_this_width s_1.2 p1 hc_3) gzX8_55 rfl rfl rfl eV_X8_get ⟨Nat.le_of_ble_eq_true rfl, Nat.le_of_ble_eq_true rfl⟩ rfl 0 rfl rfl [0, 1] rfl rfl rfl rfl rfl (Nat.le_of_ble_eq_true rfl) (Nat.le_refl _) (Nat.le_refl _) rfl dX8_mixTexts_27 ?_
      refine ii_iadd dX8_mixTexts_30 ?_
      obtain ⟨c_4, hc_4, h⟩ := bnd h
      refine ii_callVl (As := [.long s_1.1, .int s_1.2, .int ((p1 + (1 : Int32)) + c_3)]) (ws' := [(a_this, .inr (8, [.int v_this_width, .int v_this_limit, .ref a_this_cells, .int v_this_rows])), (a_this_cells, .inl (cI, n_this_cells, .inl v_this_cells))]) (st := []) (c_X8_mixRow l D cI cJ cZ cH a_this a_this_cells n_this_cells v_this_cells v_this_limit v_this_rows v_this_width s_1.1 s_1.2 ((p1 + (1 : Int32)) + c_3) hc_4) gzX8_51 rfl rfl rfl eV_X8_mixRow ⟨Nat.le_of_ble_eq_true rfl, Nat.le_of_ble_eq_true rfl⟩ rfl 0 rfl rfl [0, 1] rfl rfl rfl rfl rfl (Nat.le_of_ble_eq_true rfl) (Nat.le_refl _) (Nat.le_refl _) rfl dX8_mixTexts_31 ?_
      refine ii_lstore (lv' := [(4, .long c_4), (0, .ref a_this), (3, .int p1), (6, .int s_1.2)]) dX8_mixTexts_34 (by decide) rfl ?_
      refine ii_iinc (fun x_5 => [(6, .int x_5), (4, .long c_4), (0, .ref a_this), (3, .int p1)]) h 3 dX8_mixTexts_36 rfl kc1 (by decide) (fun _ => rfl) (fun x_5 h => ?_)
      refine ii_goto (tgt := 6) dX8_mixTexts_39 (by decide) ?_
      refine ii_lv [2, 3, 1, 0] rfl ?_
      cases h
      exact hb_1 (c_4, x_5) rfl
set_option maxHeartbeats 4000000 in
set_option maxRecDepth 100000 in
theorem c_X8_set (l : Launch) (D : va_G) (cI cJ cZ cH : ClassId) (a_this a_this_cells : Nat) (n_this_cells : Nat) (v_this_cells : Nat → Int32) (v_this_limit : Int32) (v_this_rows : Int32) (v_this_width : Int32) (p0 : Int32) (p1 : Int32) (p2 : Int32) {res : (Nat → Int32)} (h : F_X8_set n_this_cells v_this_cells v_this_rows v_this_width p0 p1 p2 = some res) : CTv l yX8_set wzX8_set { frames := 1, cells := 0, slots := 0, locals := 23 } D [(cI, .int), (cJ, .long), (cZ, .boolean), (cH, .object "TinHouse$House")] [.ref a_this, .int p0, .int p1, .int p2] [(a_this, .inr (8, [.int v_this_width, .int v_this_limit, .ref a_this_cells, .int v_this_rows])), (a_this_cells, .inl (cI, n_this_cells, .inl v_this_cells))] [(a_this, .inr (8, [.int v_this_width, .int v_this_limit, .ref a_this_cells, .int v_this_rows])), (a_this_cells, .inl (cI, n_this_cells, .inl res))] := by
  unfold F_X8_set at h
  refine ii_metV (own := RX8) (lv0 := [(0, .ref a_this), (1, .int p0), (2, .int p1), (3, .int p2)]) (by decide) rfl rfl rfl (Nat.le_of_ble_eq_true rfl) (fun {p e s m args below meth c A Q} hQ => ?_)
  refine ii_aload_n 0 dX8_set_0 rfl ?_
  refine ii_iload_n 1 dX8_set_1 rfl ?_
  refine ii_iload_n 2 dX8_set_2 rfl ?_
  obtain ⟨c_1, hc_1, h⟩ := bnd h
  refine ii_callVi (As := [.int p0, .int p1]) (ws' := [(a_this, .inr (8, [.int v_this_width, .int v_this_limit, .ref a_this_cells, .int v_this_rows])), (a_this_cells, .inl (cI, n_this_cells, .inl v_this_cells))]) (st := []) (c_X8_placeOf l D cI cJ cZ cH a_this a_this_cells v_this_limit v_this_rows v_this_width p0 p1 hc_1) gzX8_31 rfl rfl rfl eV_X8_placeOf ⟨Nat.le_of_ble_eq_true rfl, Nat.le_of_ble_eq_true rfl⟩ rfl 0 rfl rfl [0] rfl rfl rfl rfl rfl (Nat.le_of_ble_eq_true rfl) (Nat.le_refl _) (Nat.le_refl _) rfl dX8_set_3 ?_
  refine ii_istore (lv' := [(4, .int c_1), (0, .ref a_this), (1, .int p0), (2, .int p1), (3, .int p2)]) dX8_set_6 (by decide) rfl ?_
  refine ii_iload 0 dX8_set_8 rfl ?_
  refine ii_jn h (fun j_2 => [(a_this, .inr (8, [.int v_this_width, .int v_this_limit, .ref a_this_cells, .int v_this_rows])), (a_this_cells, .inl (cI, n_this_cells, .inl j_2))]) (fun j_2 => []) 31 (fun j_2 => []) (fun j_2 h => ?_) (fun j_2 h hjj_2 => ?_)
  · skip
    cases h
    exact hQ _ _ dX8_set_31
  · skip
    refine ii_if_lt (tgt := 31) h dX8_set_10 (by decide) (fun h => ?_) (fun h => ?_)
    · skip
      refine ii_lv [] rfl ?_
      cases h
      exact hjj_2
    · skip
      refine ii_iload 0 dX8_set_13 rfl ?_
      refine ii_aload_n 1 dX8_set_15 rfl ?_
      refine ii_get (C := RX8) (T := TX8) (N := 4) (ci := 8) izX8 0 rfl rfl 2 (by decide) kX8_24 rfl dX8_set_16 ?_
      refine ii_alen (v := Int32.ofNat n_this_cells) 1 0 rfl rfl rfl dX8_set_19 ?_
      refine ii_icmp_ge (tgt := 31) h dX8_set_20 (by decide) (fun h => ?_) (fun h => ?_)
      · skip
        refine ii_lv [] rfl ?_
        cases h
        exact hjj_2
      · skip
        refine ii_aload_n 1 dX8_set_23 rfl ?_
        refine ii_get (C := RX8) (T := TX8) (N := 4) (ci := 8) izX8 0 rfl rfl 2 (by decide) kX8_24 rfl dX8_set_24 ?_
        refine ii_iload 0 dX8_set_27 rfl ?_
        refine ii_iload_n 4 dX8_set_29 rfl ?_
        refine ii_iast (fun g_3 => [(a_this, .inr (8, [.int v_this_width, .int v_this_limit, .ref a_this_cells, .int v_this_rows])), (a_this_cells, .inl (cI, n_this_cells, .inl g_3))]) h 1 0 rfl rfl dX8_set_30 (fun _ => rfl) (fun g_3 h => ?_)
        refine ii_lv [] rfl ?_
        cases h
        exact hjj_2
set_option maxHeartbeats 4000000 in
set_option maxRecDepth 100000 in
theorem c_J7_fill_d0a16 (l : Launch) (D : va_G) (cI cJ cZ cH : ClassId) (a_p0 : Nat) (n_p0 : Nat) (v_p0 : Nat → Int64) (p1 : Int64) {res : (Nat → Int64)} (h : F_J7_fill_d0a16 n_p0 v_p0 p1 = some res) : CTv l yJ7_fill_d0a16 wzJ7_fill_d0a16 { frames := 0, cells := 0, slots := 0, locals := 0 } D [(cI, .int), (cJ, .long), (cZ, .boolean), (cH, .object "TinHouse$House")] [.ref a_p0, .long p1] [(a_p0, .inl (cJ, n_p0, .inr (.inl v_p0)))] [(a_p0, .inl (cJ, n_p0, .inr (.inl res)))] := by
  unfold F_J7_fill_d0a16 at h
  refine ii_metV (own := RJ7) (lv0 := [(0, .ref a_p0), (1, .long p1)]) (by decide) rfl rfl rfl (Nat.le_of_ble_eq_true rfl) (fun {p e s m args below meth c A Q} hQ => ?_)
  refine ii_iconst dJ7_fill_d0a16_0 kc0 ?_
  refine ii_istore_n (lv' := [(3, .int (0 : Int32)), (0, .ref a_p0), (1, .long p1)]) dJ7_fill_d0a16_1 rfl (by decide) rfl ?_
  refine ii_aload_n 1 dJ7_fill_d0a16_2 rfl ?_
  refine ii_alen (v := Int32.ofNat n_p0) 0 1 rfl rfl rfl dJ7_fill_d0a16_3 ?_
  refine ii_topI h (fun x_1 h => ?_)
  refine ii_istore (lv' := [(4, .int x_1), (3, .int (0 : Int32)), (0, .ref a_p0), (1, .long p1)]) dJ7_fill_d0a16_4 (by decide) rfl ?_
  refine ii_lv [2, 3, 1, 0] rfl ?_
  obtain ⟨x_3, hl_2, h⟩ := bnd h
  refine ii_loopX (fun s_2 => [(a_p0, .inl (cJ, n_p0, .inr (.inl s_2.2)))]) (fun s_2 => [(0, .ref a_p0), (1, .long p1), (3, .int s_2.1), (4, .int x_1)]) (fun x_3 => [(a_p0, .inl (cJ, n_p0, .inr (.inl x_3.2)))]) (fun x_3 => []) 22 hl_2 rfl rfl ?_ (fun s_2 o h hb_2 hr_2 hx_2 => ?_)
  · skip
    cases h
    exact hQ _ _ dJ7_fill_d0a16_22
  · skip
    refine ii_iload_n 2 dJ7_fill_d0a16_6 rfl ?_
    refine ii_iload 3 dJ7_fill_d0a16_7 rfl ?_
    refine ii_icmp_ge (tgt := 22) h dJ7_fill_d0a16_9 (by decide) (fun h => ?_) (fun h => ?_)
    · skip
      refine ii_lv [] rfl ?_
      cases h
      exact hx_2 (s_2.1, s_2.2) (hr_2 _ rfl)
    · skip
      refine ii_aload_n 0 dJ7_fill_d0a16_12 rfl ?_
      refine ii_iload_n 2 dJ7_fill_d0a16_13 rfl ?_
      refine ii_lload_n 1 dJ7_fill_d0a16_14 rfl ?_
      refine ii_last (fun g_4 => [(a_p0, .inl (cJ, n_p0, .inr (.inl g_4)))]) h 0 1 rfl rfl dJ7_fill_d0a16_15 (fun _ => rfl) (fun g_4 h => ?_)
      refine ii_iinc (fun x_5 => [(3, .int x_5), (0, .ref a_p0), (1, .long p1), (4, .int x_1)]) h 2 dJ7_fill_d0a16_16 rfl kc1 (by decide) (fun _ => rfl) (fun x_5 h => ?_)
      refine ii_goto (tgt := 6) dJ7_fill_d0a16_19 (by decide) ?_
      refine ii_lv [1, 2, 0, 3] rfl ?_
      cases h
      exact hb_2 (x_5, g_4) rfl
set_option maxHeartbeats 4000000 in
set_option maxRecDepth 100000 in
theorem c_J7_fill_53178 (l : Launch) (D : va_G) (cI cJ cZ cH : ClassId) (a_p0 : Nat) (n_p0 : Nat) (v_p0 : Nat → Int32) (p1 : Int32) {res : (Nat → Int32)} (h : F_J7_fill_53178 n_p0 v_p0 p1 = some res) : CTv l yJ7_fill_53178 wzJ7_fill_53178 { frames := 0, cells := 0, slots := 0, locals := 0 } D [(cI, .int), (cJ, .long), (cZ, .boolean), (cH, .object "TinHouse$House")] [.ref a_p0, .int p1] [(a_p0, .inl (cI, n_p0, .inl v_p0))] [(a_p0, .inl (cI, n_p0, .inl res))] := by
  unfold F_J7_fill_53178 at h
  refine ii_metV (own := RJ7) (lv0 := [(0, .ref a_p0), (1, .int p1)]) (by decide) rfl rfl rfl (Nat.le_of_ble_eq_true rfl) (fun {p e s m args below meth c A Q} hQ => ?_)
  refine ii_iconst dJ7_fill_53178_0 kc0 ?_
  refine ii_istore_n (lv' := [(2, .int (0 : Int32)), (0, .ref a_p0), (1, .int p1)]) dJ7_fill_53178_1 rfl (by decide) rfl ?_
  refine ii_aload_n 1 dJ7_fill_53178_2 rfl ?_
  refine ii_alen (v := Int32.ofNat n_p0) 0 0 rfl rfl rfl dJ7_fill_53178_3 ?_
  refine ii_topI h (fun x_1 h => ?_)
  refine ii_istore_n (lv' := [(3, .int x_1), (2, .int (0 : Int32)), (0, .ref a_p0), (1, .int p1)]) dJ7_fill_53178_4 rfl (by decide) rfl ?_
  refine ii_lv [2, 3, 1, 0] rfl ?_
  obtain ⟨x_3, hl_2, h⟩ := bnd h
  refine ii_loopX (fun s_2 => [(a_p0, .inl (cI, n_p0, .inl s_2.2))]) (fun s_2 => [(0, .ref a_p0), (1, .int p1), (2, .int s_2.1), (3, .int x_1)]) (fun x_3 => [(a_p0, .inl (cI, n_p0, .inl x_3.2))]) (fun x_3 => []) 20 hl_2 rfl rfl ?_ (fun s_2 o h hb_2 hr_2 hx_2 => ?_)
  · skip
    cases h
    exact hQ _ _ dJ7_fill_53178_20
  · skip
    refine ii_iload_n 2 dJ7_fill_53178_5 rfl ?_
    refine ii_iload_n 3 dJ7_fill_53178_6 rfl ?_
    refine ii_icmp_ge (tgt := 20) h dJ7_fill_53178_7 (by decide) (fun h => ?_) (fun h => ?_)
    · skip
      refine ii_lv [] rfl ?_
      cases h
      exact hx_2 (s_2.1, s_2.2) (hr_2 _ rfl)
    · skip
      refine ii_aload_n 0 dJ7_fill_53178_10 rfl ?_
      refine ii_iload_n 2 dJ7_fill_53178_11 rfl ?_
      refine ii_iload_n 1 dJ7_fill_53178_12 rfl ?_
      refine ii_iast (fun g_4 => [(a_p0, .inl (cI, n_p0, .inl g_4))]) h 0 0 rfl rfl dJ7_fill_53178_13 (fun _ => rfl) (fun g_4 h => ?_)
      refine ii_iinc (fun x_5 => [(2, .int x_5), (0, .ref a_p0), (1, .int p1), (3, .int x_1)]) h 2 dJ7_fill_53178_14 rfl kc1 (by decide) (fun _ => rfl) (fun x_5 h => ?_)
      refine ii_goto (tgt := 5) dJ7_fill_53178_17 (by decide) ?_
      refine ii_lv [1, 2, 0, 3] rfl ?_
      cases h
      exact hb_2 (x_5, g_4) rfl
set_option maxHeartbeats 4000000 in
set_option maxRecDepth 100000 in
theorem c_X8_isFull (l : Launch) (D : va_G) (cI cJ cZ cH : ClassId) (a_this a_this_cells : Nat) (v_this_limit : Int32) (v_this_rows : Int32) (v_this_width : Int32) {res : Int32} (h : F_X8_isFull v_this_limit v_this_rows = some res) : CTi l yX8_isFull wzX8_isFull { frames := 0, cells := 0, slots := 0, locals := 0 } D [(cI, .int), (cJ, .long), (cZ, .boolean), (cH, .object "TinHouse$House")] [.ref a_this] [(a_this, .inr (8, [.int v_this_width, .int v_this_limit, .ref a_this_cells, .int v_this_rows]))] res [(a_this, .inr (8, [.int v_this_width, .int v_this_limit, .ref a_this_cells, .int v_this_rows]))] := by
  unfold F_X8_isFull at h
  refine ii_metZ (own := RX8) (lv0 := [(0, .ref a_this)]) (by decide) rfl rfl rfl (Nat.le_of_ble_eq_true rfl) (fun {p e s m args below meth c A Q} hQ => ?_)
  refine ii_aload_n 0 dX8_isFull_0 rfl ?_
  refine ii_get (C := RX8) (T := TX8) (N := 4) (ci := 8) izX8 0 rfl rfl 3 (by decide) kX8_28 rfl dX8_isFull_1 ?_
  refine ii_aload_n 0 dX8_isFull_4 rfl ?_
  refine ii_get (C := RX8) (T := TX8) (N := 4) (ci := 8) izX8 0 rfl rfl 1 (by decide) kX8_9 rfl dX8_isFull_5 ?_
  refine ii_jn h (fun j_1 => [(a_this, .inr (8, [.int v_this_width, .int v_this_limit, .ref a_this_cells, .int v_this_rows]))]) (fun j_1 => []) 16 (fun j_1 => [.int j_1]) (fun j_1 h => ?_) (fun j_1 h hjj_1 => ?_)
  · skip
    refine ii_topB h (fun t_2 hz_3 h => ?_)
    cases h
    exact hQ _ _ dX8_isFull_16 hz_3
  · skip
    refine ii_icmp_lt (tgt := 15) h dX8_isFull_8 (by decide) (fun h => ?_) (fun h => ?_)
    · skip
      refine ii_iconst dX8_isFull_15 kc0 ?_
      refine ii_lv [] rfl ?_
      cases h
      exact hjj_1
    · skip
      refine ii_iconst dX8_isFull_11 kc1 ?_
      refine ii_goto (tgt := 16) dX8_isFull_12 (by decide) ?_
      refine ii_lv [] rfl ?_
      cases h
      exact hjj_1
set_option maxHeartbeats 4000000 in
set_option maxRecDepth 100000 in
theorem c_X8_add (l : Launch) (D : va_G) (cI cJ cZ cH : ClassId) (a_this a_this_cells : Nat) (n_this_cells : Nat) (v_this_cells : Nat → Int32) (v_this_limit : Int32) (v_this_rows : Int32) (v_this_width : Int32) (p0 : Int32) (p1 : Int32) (p2 : Int32) (p3 : Int32) (p4 : Int32) {res : Int32 × (Nat → Int32) × Int32} (h : F_X8_add n_this_cells v_this_cells v_this_limit v_this_rows v_this_width p0 p1 p2 p3 p4 = some res) : CTi l yX8_add wzX8_add { frames := 2, cells := 0, slots := 0, locals := 47 } D [(cI, .int), (cJ, .long), (cZ, .boolean), (cH, .object "TinHouse$House")] [.ref a_this, .int p0, .int p1, .int p2, .int p3, .int p4] [(a_this, .inr (8, [.int v_this_width, .int v_this_limit, .ref a_this_cells, .int v_this_rows])), (a_this_cells, .inl (cI, n_this_cells, .inl v_this_cells))] res.1 [(a_this, .inr (8, [.int v_this_width, .int v_this_limit, .ref a_this_cells, .int res.2.2])), (a_this_cells, .inl (cI, n_this_cells, .inl res.2.1))] := by
  unfold F_X8_add at h
  refine ii_metI (own := RX8) (lv0 := [(0, .ref a_this), (1, .int p0), (2, .int p1), (3, .int p2), (4, .int p3), (5, .int p4)]) (by decide) rfl rfl rfl (Nat.le_of_ble_eq_true rfl) (fun {p e s m args below meth c A Q} hQ => ?_)
  refine ii_aload_n 0 dX8_add_0 rfl ?_
  obtain ⟨c_1, hc_1, h⟩ := bnd h
  refine ii_callVi (As := []) (ws' := [(a_this, .inr (8, [.int v_this_width, .int v_this_limit, .ref a_this_cells, .int v_this_rows])), (a_this_cells, .inl (cI, n_this_cells, .inl v_this_cells))]) (st := []) (c_X8_isFull l D cI cJ cZ cH a_this a_this_cells v_this_limit v_this_rows v_this_width hc_1) gzX8_34 rfl rfl rfl eV_X8_isFull ⟨Nat.le_of_ble_eq_true rfl, Nat.le_of_ble_eq_true rfl⟩ rfl 0 rfl rfl [0] rfl rfl rfl rfl rfl (Nat.le_of_ble_eq_true rfl) (Nat.le_refl _) (Nat.le_refl _) rfl dX8_add_1 ?_
  refine ii_if_eq (tgt := 9) h dX8_add_4 (by decide) (fun h => ?_) (fun h => ?_)
  · skip
    refine ii_aload_n 0 dX8_add_9 rfl ?_
    refine ii_get (C := RX8) (T := TX8) (N := 4) (ci := 8) izX8 0 rfl rfl 3 (by decide) kX8_28 rfl dX8_add_10 ?_
    refine ii_istore (lv' := [(6, .int v_this_rows), (0, .ref a_this), (1, .int p0), (2, .int p1), (3, .int p2), (4, .int p3), (5, .int p4)]) dX8_add_13 (by decide) rfl ?_
    refine ii_aload_n 1 dX8_add_15 rfl ?_
    refine ii_iload 0 dX8_add_16 rfl ?_
    refine ii_iconst dX8_add_18 kc1 ?_
    refine ii_iadd dX8_add_19 ?_
    refine ii_topI h (fun x_2 h => ?_)
    refine ii_put (C := RX8) (T := TX8) (N := 4) (ci := 8) (ty0 := tyX8) (ws' := [(a_this, .inr (8, [.int v_this_width, .int v_this_limit, .ref a_this_cells, .int x_2])), (a_this_cells, .inl (cI, n_this_cells, .inl v_this_cells))]) izX8 tyX8_ok nmX8 0 rfl rfl 3 (by decide) kX8_28 rfl rfl rfl (Nat.le_of_ble_eq_true rfl) dX8_add_20 rfl ?_
    refine ii_aload_n 1 dX8_add_23 rfl ?_
    refine ii_iload 0 dX8_add_24 rfl ?_
    refine ii_iconst dX8_add_26 kc0 ?_
    refine ii_iload_n 2 dX8_add_27 rfl ?_
    obtain ⟨c_3, hc_3, h⟩ := bnd h
    refine ii_callVv (As := [.int v_this_rows, .int (0 : Int32), .int p0]) (ws' := [(a_this, .inr (8, [.int v_this_width, .int v_this_limit, .ref a_this_cells, .int x_2])), (a_this_cells, .inl (cI, n_this_cells, .inl c_3))]) (st := []) (c_X8_set l D cI cJ cZ cH a_this a_this_cells n_this_cells v_this_cells v_this_limit x_2 v_this_width v_this_rows (0 : Int32) p0 hc_3) gzX8_38 rfl rfl rfl eV_X8_set ⟨Nat.le_of_ble_eq_true rfl, Nat.le_of_ble_eq_true rfl⟩ rfl 0 rfl rfl [0, 1] rfl rfl rfl rfl rfl (Nat.le_of_ble_eq_true rfl) (Nat.le_refl _) (Nat.le_refl _) rfl dX8_add_28 ?_
    refine ii_aload_n 1 dX8_add_31 rfl ?_
    refine ii_iload 0 dX8_add_32 rfl ?_
    refine ii_iconst dX8_add_34 kc1 ?_
    refine ii_iload_n 3 dX8_add_35 rfl ?_
    obtain ⟨c_4, hc_4, h⟩ := bnd h
    refine ii_callVv (As := [.int v_this_rows, .int (1 : Int32), .int p1]) (ws' := [(a_this, .inr (8, [.int v_this_width, .int v_this_limit, .ref a_this_cells, .int x_2])), (a_this_cells, .inl (cI, n_this_cells, .inl c_4))]) (st := []) (c_X8_set l D cI cJ cZ cH a_this a_this_cells n_this_cells c_3 v_this_limit x_2 v_this_width v_this_rows (1 : Int32) p1 hc_4) gzX8_38 rfl rfl rfl eV_X8_set ⟨Nat.le_of_ble_eq_true rfl, Nat.le_of_ble_eq_true rfl⟩ rfl 0 rfl rfl [0, 1] rfl rfl rfl rfl rfl (Nat.le_of_ble_eq_true rfl) (Nat.le_refl _) (Nat.le_refl _) rfl dX8_add_36 ?_
    refine ii_aload_n 1 dX8_add_39 rfl ?_
    refine ii_iload 0 dX8_add_40 rfl ?_
    refine ii_iconst dX8_add_42 kc2 ?_
    refine ii_iload_n 4 dX8_add_43 rfl ?_
    obtain ⟨c_5, hc_5, h⟩ := bnd h
    refine ii_callVv (As := [.int v_this_rows, .int (2 : Int32), .int p2]) (ws' := [(a_this, .inr (8, [.int v_this_width, .int v_this_limit, .ref a_this_cells, .int x_2])), (a_this_cells, .inl (cI, n_this_cells, .inl c_5))]) (st := []) (c_X8_set l D cI cJ cZ cH a_this a_this_cells n_this_cells c_4 v_this_limit x_2 v_this_width v_this_rows (2 : Int32) p2 hc_5) gzX8_38 rfl rfl rfl eV_X8_set ⟨Nat.le_of_ble_eq_true rfl, Nat.le_of_ble_eq_true rfl⟩ rfl 0 rfl rfl [0, 1] rfl rfl rfl rfl rfl (Nat.le_of_ble_eq_true rfl) (Nat.le_refl _) (Nat.le_refl _) rfl dX8_add_44 ?_
    refine ii_aload_n 1 dX8_add_47 rfl ?_
    refine ii_iload 0 dX8_add_48 rfl ?_
    refine ii_iconst dX8_add_50 kc3 ?_
    refine ii_iload 5 dX8_add_51 rfl ?_
    obtain ⟨c_6, hc_6, h⟩ := bnd h
    refine ii_callVv (As := [.int v_this_rows, .int (3 : Int32), .int p3]) (ws' := [(a_this, .inr (8, [.int v_this_width, .int v_this_limit, .ref a_this_cells, .int x_2])), (a_this_cells, .inl (cI, n_this_cells, .inl c_6))]) (st := []) (c_X8_set l D cI cJ cZ cH a_this a_this_cells n_this_cells c_5 v_this_limit x_2 v_this_width v_this_rows (3 : Int32) p3 hc_6) gzX8_38 rfl rfl rfl eV_X8_set ⟨Nat.le_of_ble_eq_true rfl, Nat.le_of_ble_eq_true rfl⟩ rfl 0 rfl rfl [0, 1] rfl rfl rfl rfl rfl (Nat.le_of_ble_eq_true rfl) (Nat.le_refl _) (Nat.le_refl _) rfl dX8_add_53 ?_
    refine ii_aload_n 1 dX8_add_56 rfl ?_
    refine ii_iload 0 dX8_add_57 rfl ?_
    refine ii_iconst dX8_add_59 kc4 ?_
    refine ii_iload 6 dX8_add_60 rfl ?_
    obtain ⟨c_7, hc_7, h⟩ := bnd h
    refine ii_callVv (As := [.int v_this_rows, .int (4 : Int32), .int p4]) (ws' := [(a_this, .inr (8, [.int v_this_width, .int v_this_limit, .ref a_this_cells, .int x_2])), (a_this_cells, .inl (cI, n_this_cells, .inl c_7))]) (st := []) (c_X8_set l D cI cJ cZ cH a_this a_this_cells n_this_cells c_6 v_this_limit x_2 v_this_width v_this_rows (4 : Int32) p4 hc_7) gzX8_38 rfl rfl rfl eV_X8_set ⟨Nat.le_of_ble_eq_true rfl, Nat.le_of_ble_eq_true rfl⟩ rfl 0 rfl rfl [0, 1] rfl rfl rfl rfl rfl (Nat.le_of_ble_eq_true rfl) (Nat.le_refl _) (Nat.le_refl _) rfl dX8_add_62 ?_
    refine ii_iconst dX8_add_65 kc5 ?_
    refine ii_istore (lv' := [(7, .int (5 : Int32)), (6, .int v_this_rows), (0, .ref a_this), (1, .int p0), (2, .int p1), (3, .int p2), (4, .int p3), (5, .int p4)]) dX8_add_66 (by decide) rfl ?_
    refine ii_lv [2, 1, 0] rfl ?_
    obtain ⟨x_9, hl_8, h⟩ := bnd h
    refine ii_loopX (fun s_8 => [(a_this, .inr (8, [.int v_this_width, .int v_this_limit, .ref a_this_cells, .int x_2])), (a_this_cells, .inl (cI, n_this_cells, .inl s_8.2))]) (fun s_8 => [(0, .ref a_this), (6, .int v_this_rows), (7, .int s_8.1)]) (fun x_9 => [(a_this, .inr (8, [.int v_this_width, .int v_this_limit, .ref a_this_cells, .int x_2])), (a_this_cells, .inl (cI, n_this_cells, .inl x_9.2))]) (fun x_9 => [(6, .int v_this_rows)]) 92 hl_8 rfl rfl ?_ (fun s_8 o h hb_8 hr_8 hx_8 => ?_)
    · skip
      refine ii_iload 0 dX8_add_92 rfl ?_
      cases h
      exact hQ _ _ dX8_add_94
    · skip
      refine ii_iload 2 dX8_add_68 rfl ?_
      refine ii_aload_n 0 dX8_add_70 rfl ?_
      refine ii_get (C := RX8) (T := TX8) (N := 4) (ci := 8) izX8 0 rfl rfl 0 (by decide) kX8_15 rfl dX8_add_71 ?_
      refine ii_icmp_ge (tgt := 92) h dX8_add_74 (by decide) (fun h => ?_) (fun h => ?_)
      · skip
        refine ii_lv [1] rfl ?_
        cases h
        exact hx_8 (s_8.1, s_8.2) (hr_8 _ rfl)
      · skip
        refine ii_aload_n 0 dX8_add_77 rfl ?_
        refine ii_iload 1 dX8_add_78 rfl ?_
        refine ii_iload 2 dX8_add_80 rfl ?_
        refine ii_iconst dX8_add_82 kc0 ?_
        obtain ⟨c_10, hc_10, h⟩ := bnd h
        refine ii_callVv (As := [.int v_this_rows, .int s_8.1, .int (0 : Int32)]) (ws' := [(a_this, .inr (8, [.int v_this_width, .int v_this_limit, .ref a_this_cells, .int x_2])), (a_this_cells, .inl (cI, n_this_cells, .inl c_10))]) (st := []) (c_X8_set l D cI cJ cZ cH a_this a_this_cells n_this_cells s_8.2 v_this_limit x_2 v_this_width v_this_rows s_8.1 (0 : Int32) hc_10) gzX8_38 rfl rfl rfl eV_X8_set ⟨Nat.le_of_ble_eq_true rfl, Nat.le_of_ble_eq_true rfl⟩ rfl 0 rfl rfl [0, 1] rfl rfl rfl rfl rfl (Nat.le_of_ble_eq_true rfl) (Nat.le_refl _) (Nat.le_refl _) rfl dX8_add_83 ?_
        refine ii_iinc (fun x_11 => [(7, .int x_11), (0, .ref a_this), (6, .int v_this_rows)]) h 2 dX8_add_86 rfl kc1 (by decide) (fun _ => rfl) (fun x_11 h => ?_)
        refine ii_goto (tgt := 68) dX8_add_89 (by decide) ?_
        refine ii_lv [1, 2, 0] rfl ?_
        cases h
        exact hb_8 (x_11, c_10) rfl
  · skip
    refine ii_iconst dX8_add_7 kcm1 ?_
    cases h
    exact hQ _ _ dX8_add_8
set_option maxHeartbeats 4000000 in
set_option maxRecDepth 100000 in
theorem c_X8_clear (l : Launch) (D : va_G) (cI cJ cZ cH : ClassId) (a_this a_this_cells : Nat) (v_this_limit : Int32) (v_this_rows : Int32) (v_this_width : Int32) {res : Int32} (h : F_X8_clear v_this_rows = some res) : CTv l yX8_clear wzX8_clear { frames := 0, cells := 0, slots := 0, locals := 0 } D [(cI, .int), (cJ, .long), (cZ, .boolean), (cH, .object "TinHouse$House")] [.ref a_this] [(a_this, .inr (8, [.int v_this_width, .int v_this_limit, .ref a_this_cells, .int v_this_rows]))] [(a_this, .inr (8, [.int v_this_width, .int v_this_limit, .ref a_this_cells, .int res]))] := by
  unfold F_X8_clear at h
  refine ii_metV (own := RX8) (lv0 := [(0, .ref a_this)]) (by decide) rfl rfl rfl (Nat.le_of_ble_eq_true rfl) (fun {p e s m args below meth c A Q} hQ => ?_)
  refine ii_aload_n 0 dX8_clear_0 rfl ?_
  refine ii_iconst dX8_clear_1 kc0 ?_
  refine ii_put (C := RX8) (T := TX8) (N := 4) (ci := 8) (ty0 := tyX8) (ws' := [(a_this, .inr (8, [.int v_this_width, .int v_this_limit, .ref a_this_cells, .int (0 : Int32)]))]) izX8 tyX8_ok nmX8 0 rfl rfl 3 (by decide) kX8_28 rfl rfl rfl (Nat.le_of_ble_eq_true rfl) dX8_clear_2 rfl ?_
  cases h
  exact hQ _ _ dX8_clear_5
set_option maxHeartbeats 4000000 in
set_option maxRecDepth 100000 in
theorem c_J6_bitCount_0f7a4 (l : Launch) (D : va_G) (cI cJ cZ cH : ClassId) (p0 : Int32) {res : Int32} (h : F_J6_bitCount_0f7a4 p0 = some res) : CTi l yJ6_bitCount_0f7a4 wzJ6_bitCount_0f7a4 { frames := 0, cells := 0, slots := 0, locals := 0 } D [(cI, .int), (cJ, .long), (cZ, .boolean), (cH, .object "TinHouse$House")] [.int p0] [] res [] := by
  unfold F_J6_bitCount_0f7a4 at h
  refine ii_metI (own := RJ6) (lv0 := [(0, .int p0)]) (by decide) rfl rfl rfl (Nat.le_of_ble_eq_true rfl) (fun {p e s m args below meth c A Q} hQ => ?_)
  refine ii_iload_n 0 dJ6_bitCount_0f7a4_0 rfl ?_
  refine ii_iload_n 0 dJ6_bitCount_0f7a4_1 rfl ?_
  refine ii_iconst dJ6_bitCount_0f7a4_2 kc1 ?_
  refine ii_iushr dJ6_bitCount_0f7a4_3 ?_
  refine ii_ldcw (v := 1431655765) dJ6_bitCount_0f7a4_4 kJ6_265 ?_
  refine ii_iand dJ6_bitCount_0f7a4_7 ?_
  refine ii_isub dJ6_bitCount_0f7a4_8 ?_
  refine ii_topI h (fun x_1 h => ?_)
  refine ii_istore_n (lv' := [(0, .int x_1)]) dJ6_bitCount_0f7a4_9 rfl (by decide) rfl ?_
  refine ii_iload_n 0 dJ6_bitCount_0f7a4_10 rfl ?_
  refine ii_ldcw (v := 858993459) dJ6_bitCount_0f7a4_11 kJ6_266 ?_
  refine ii_iand dJ6_bitCount_0f7a4_14 ?_
  refine ii_iload_n 0 dJ6_bitCount_0f7a4_15 rfl ?_
  refine ii_iconst dJ6_bitCount_0f7a4_16 kc2 ?_
  refine ii_iushr dJ6_bitCount_0f7a4_17 ?_
  refine ii_ldcw (v := 858993459) dJ6_bitCount_0f7a4_18 kJ6_266 ?_
  refine ii_iand dJ6_bitCount_0f7a4_21 ?_
  refine ii_iadd dJ6_bitCount_0f7a4_22 ?_
  refine ii_topI h (fun x_2 h => ?_)
  refine ii_istore_n (lv' := [(0, .int x_2)]) dJ6_bitCount_0f7a4_23 rfl (by decide) rfl ?_
  refine ii_iload_n 0 dJ6_bitCount_0f7a4_24 rfl ?_
  refine ii_iload_n 0 dJ6_bitCount_0f7a4_25 rfl ?_
  refine ii_iconst dJ6_bitCount_0f7a4_26 kc4 ?_
  refine ii_iushr dJ6_bitCount_0f7a4_27 ?_
  refine ii_iadd dJ6_bitCount_0f7a4_28 ?_
  refine ii_ldcw (v := 252645135) dJ6_bitCount_0f7a4_29 kJ6_267 ?_
  refine ii_iand dJ6_bitCount_0f7a4_32 ?_
  refine ii_topI h (fun x_3 h => ?_)
  refine ii_istore_n (lv' := [(0, .int x_3)]) dJ6_bitCount_0f7a4_33 rfl (by decide) rfl ?_
  refine ii_iload_n 0 dJ6_bitCount_0f7a4_34 rfl ?_
  refine ii_iload_n 0 dJ6_bitCount_0f7a4_35 rfl ?_
  refine ii_bipush dJ6_bitCount_0f7a4_36 kb8 ?_
  refine ii_iushr dJ6_bitCount_0f7a4_38 ?_
  refine ii_iadd dJ6_bitCount_0f7a4_39 ?_
  refine ii_topI h (fun x_4 h => ?_)
  refine ii_istore_n (lv' := [(0, .int x_4)]) dJ6_bitCount_0f7a4_40 rfl (by decide) rfl ?_
  refine ii_iload_n 0 dJ6_bitCount_0f7a4_41 rfl ?_
  refine ii_iload_n 0 dJ6_bitCount_0f7a4_42 rfl ?_
  refine ii_bipush dJ6_bitCount_0f7a4_43 kb16 ?_
  refine ii_iushr dJ6_bitCount_0f7a4_45 ?_
  refine ii_iadd dJ6_bitCount_0f7a4_46 ?_
  refine ii_topI h (fun x_5 h => ?_)
  refine ii_istore_n (lv' := [(0, .int x_5)]) dJ6_bitCount_0f7a4_47 rfl (by decide) rfl ?_
  refine ii_iload_n 0 dJ6_bitCount_0f7a4_48 rfl ?_
  refine ii_bipush dJ6_bitCount_0f7a4_49 kb63 ?_
  refine ii_iand dJ6_bitCount_0f7a4_51 ?_
  cases h
  exact hQ _ _ dJ6_bitCount_0f7a4_52
