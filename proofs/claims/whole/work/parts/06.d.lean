set_option maxHeartbeats 4000000 in
set_option maxRecDepth 100000 in
theorem c_X7_takeDigit (l : Launch) (D : va_G) (cI cJ cZ cH : ClassId) (a_this a_this_codes a_this_waiting : Nat) (v_this_count : Int32) (v_this_digits : Int32) (v_this_fault : Int32) (v_this_firstDigit : Int32) (v_this_number : Int32) (v_this_open : Int32) (v_this_unitIsDue : Int32) (v_this_waits : Int32) (p0 : Int32) (p1 : Int32) {res : Int32 × Int32 × Int32 × Int32 × Int32} (h : F_X7_takeDigit v_this_digits v_this_fault v_this_firstDigit v_this_number v_this_unitIsDue p0 p1 = some res) : CTv l yX7_takeDigit wzX7_takeDigit { frames := 0, cells := 0, slots := 0, locals := 0 } D [(cI, .int), (cJ, .long), (cZ, .boolean), (cH, .object "TinHouse$House")] [.ref a_this, .int p0, .int p1] [(a_this, .inr (7, [.ref a_this_codes, .int v_this_count, .ref a_this_waiting, .int v_this_waits, .int v_this_open, .int v_this_unitIsDue, .int v_this_digits, .int v_this_firstDigit, .int v_this_number, .int v_this_fault]))] [(a_this, .inr (7, [.ref a_this_codes, .int v_this_count, .ref a_this_waiting, .int v_this_waits, .int v_this_open, .int res.2.2.2.2, .int res.1, .int res.2.2.1, .int res.2.2.2.1, .int res.2.1]))] := by
  unfold F_X7_takeDigit at h
  refine ii_metV (own := RX7) (lv0 := [(0, .ref a_this), (1, .int p0), (2, .int p1)]) (by decide) rfl rfl rfl (Nat.le_of_ble_eq_true rfl) (fun {p e s m args below meth c A Q} hQ => ?_)
  refine ii_aload_n 0 dX7_takeDigit_0 rfl ?_
  refine ii_get (C := RX7) (T := TX7) (N := 10) (ci := 7) izX7 0 rfl rfl 6 (by decide) kX7_32 rfl dX7_takeDigit_1 ?_
  refine ii_jn h (fun j_1 => [(a_this, .inr (7, [.ref a_this_codes, .int v_this_count, .ref a_this_waiting, .int v_this_waits, .int v_this_open, .int j_1.2.2.2.2, .int j_1.1, .int j_1.2.2.1, .int j_1.2.2.2.1, .int j_1.2.1]))]) (fun j_1 => []) 110 (fun j_1 => []) (fun j_1 h => ?_) (fun j_1 h hjj_1 => ?_)
  · skip
    cases h
    exact hQ _ _ dX7_takeDigit_110
  · skip
    refine ii_jf (r := j_1) (J_X7_takeDigit_2_27 v_this_digits v_this_firstDigit v_this_number v_this_unitIsDue p0 p1 v_this_fault) (fun v_2 => [(a_this, .inr (7, [.ref a_this_codes, .int v_this_count, .ref a_this_waiting, .int v_this_waits, .int v_this_open, .int v_this_unitIsDue, .int v_this_digits, .int v_this_firstDigit, .int v_this_number, .int v_this_fault]))]) (fun v_2 => [(0, .ref a_this), (1, .int p0), (2, .int p1)]) 27 (fun v_2 => []) (fun v_2 h => ?_) (fun hjv_2 => ?_)
    · skip
      refine ii_aload_n 0 dX7_takeDigit_27 rfl ?_
      refine ii_get (C := RX7) (T := TX7) (N := 10) (ci := 7) izX7 0 rfl rfl 6 (by decide) kX7_32 rfl dX7_takeDigit_28 ?_
      refine ii_bipush dX7_takeDigit_31 kb6 ?_
      refine ii_icmp_ne (tgt := 52) h dX7_takeDigit_33 (by decide) (fun h => ?_) (fun h => ?_)
      · skip
        refine ii_aload_n 0 dX7_takeDigit_52 rfl ?_
        refine ii_aload_n 0 dX7_takeDigit_53 rfl ?_
        refine ii_get (C := RX7) (T := TX7) (N := 10) (ci := 7) izX7 0 rfl rfl 6 (by decide) kX7_32 rfl dX7_takeDigit_54 ?_
        refine ii_jn h (fun j_3 => [(a_this, .inr (7, [.ref a_this_codes, .int v_this_count, .ref a_this_waiting, .int v_this_waits, .int v_this_open, .int v_this_unitIsDue, .int v_this_digits, .int v_this_firstDigit, .int v_this_number, .int v_this_fault]))]) (fun j_3 => [(0, .ref a_this), (2, .int p1)]) 68 (fun j_3 => [.int j_3, .ref a_this]) (fun j_3 h => ?_) (fun j_3 h hjj_3 => ?_)
        · skip
          refine ii_put (C := RX7) (T := TX7) (N := 10) (ci := 7) (ty0 := tyX7) (ws' := [(a_this, .inr (7, [.ref a_this_codes, .int v_this_count, .ref a_this_waiting, .int v_this_waits, .int v_this_open, .int v_this_unitIsDue, .int v_this_digits, .int j_3, .int v_this_number, .int v_this_fault]))]) izX7 tyX7_ok nmX7 0 rfl rfl 7 (by decide) kX7_64 rfl rfl rfl (Nat.le_of_ble_eq_true rfl) dX7_takeDigit_68 rfl ?_
          refine ii_aload_n 0 dX7_takeDigit_71 rfl ?_
          refine ii_aload_n 0 dX7_takeDigit_72 rfl ?_
          refine ii_get (C := RX7) (T := TX7) (N := 10) (ci := 7) izX7 0 rfl rfl 6 (by decide) kX7_32 rfl dX7_takeDigit_73 ?_
          refine ii_jn h (fun j_4 => [(a_this, .inr (7, [.ref a_this_codes, .int v_this_count, .ref a_this_waiting, .int v_this_waits, .int v_this_open, .int v_this_unitIsDue, .int v_this_digits, .int j_3, .int v_this_number, .int v_this_fault]))]) (fun j_4 => [(0, .ref a_this)]) 92 (fun j_4 => [.int j_4, .ref a_this]) (fun j_4 h => ?_) (fun j_4 h hjj_4 => ?_)
          · skip
            refine ii_put (C := RX7) (T := TX7) (N := 10) (ci := 7) (ty0 := tyX7) (ws' := [(a_this, .inr (7, [.ref a_this_codes, .int v_this_count, .ref a_this_waiting, .int v_this_waits, .int v_this_open, .int v_this_unitIsDue, .int v_this_digits, .int j_3, .int j_4, .int v_this_fault]))]) izX7 tyX7_ok nmX7 0 rfl rfl 8 (by decide) kX7_67 rfl rfl rfl (Nat.le_of_ble_eq_true rfl) dX7_takeDigit_92 rfl ?_
            refine ii_aload_n 0 dX7_takeDigit_95 rfl ?_
            refine ii_dup dX7_takeDigit_96 rfl ?_
            refine ii_get (C := RX7) (T := TX7) (N := 10) (ci := 7) izX7 0 rfl rfl 6 (by decide) kX7_32 rfl dX7_takeDigit_97 ?_
            refine ii_iconst dX7_takeDigit_100 kc1 ?_
            refine ii_iadd dX7_takeDigit_101 ?_
            refine ii_topI h (fun x_5 h => ?_)
            refine ii_put (C := RX7) (T := TX7) (N := 10) (ci := 7) (ty0 := tyX7) (ws' := [(a_this, .inr (7, [.ref a_this_codes, .int v_this_count, .ref a_this_waiting, .int v_this_waits, .int v_this_open, .int v_this_unitIsDue, .int x_5, .int j_3, .int j_4, .int v_this_fault]))]) izX7 tyX7_ok nmX7 0 rfl rfl 6 (by decide) kX7_32 rfl rfl rfl (Nat.le_of_ble_eq_true rfl) dX7_takeDigit_102 rfl ?_
            refine ii_aload_n 0 dX7_takeDigit_105 rfl ?_
            refine ii_iconst dX7_takeDigit_106 kc0 ?_
            refine ii_put (C := RX7) (T := TX7) (N := 10) (ci := 7) (ty0 := tyX7) (ws' := [(a_this, .inr (7, [.ref a_this_codes, .int v_this_count, .ref a_this_waiting, .int v_this_waits, .int v_this_open, .int (0 : Int32), .int x_5, .int j_3, .int j_4, .int v_this_fault]))]) izX7 tyX7_ok nmX7 0 rfl rfl 5 (by decide) kX7_28 rfl rfl rfl (Nat.le_of_ble_eq_true rfl) dX7_takeDigit_107 rfl ?_
            refine ii_lv [] rfl ?_
            cases h
            exact hjj_1
          · skip
            refine ii_if_ne (tgt := 83) h dX7_takeDigit_76 (by decide) (fun h => ?_) (fun h => ?_)
            · skip
              refine ii_bipush dX7_takeDigit_83 kb10 ?_
              refine ii_aload_n 0 dX7_takeDigit_85 rfl ?_
              refine ii_get (C := RX7) (T := TX7) (N := 10) (ci := 7) izX7 0 rfl rfl 8 (by decide) kX7_67 rfl dX7_takeDigit_86 ?_
              refine ii_imul dX7_takeDigit_89 ?_
              refine ii_iload_n 1 dX7_takeDigit_90 rfl ?_
              refine ii_iadd dX7_takeDigit_91 ?_
              refine ii_lv [0] rfl ?_
              cases h
              exact hjj_4
            · skip
              refine ii_iload_n 1 dX7_takeDigit_79 rfl ?_
              refine ii_goto (tgt := 92) dX7_takeDigit_80 (by decide) ?_
              refine ii_lv [0] rfl ?_
              cases h
              exact hjj_4
        · skip
          refine ii_if_ne (tgt := 64) h dX7_takeDigit_57 (by decide) (fun h => ?_) (fun h => ?_)
          · skip
            refine ii_aload_n 0 dX7_takeDigit_64 rfl ?_
            refine ii_get (C := RX7) (T := TX7) (N := 10) (ci := 7) izX7 0 rfl rfl 7 (by decide) kX7_64 rfl dX7_takeDigit_65 ?_
            refine ii_lv [0, 2] rfl ?_
            cases h
            exact hjj_3
          · skip
            refine ii_iload_n 1 dX7_takeDigit_60 rfl ?_
            refine ii_goto (tgt := 68) dX7_takeDigit_61 (by decide) ?_
            refine ii_lv [0, 2] rfl ?_
            cases h
            exact hjj_3
      · skip
        refine ii_aload_n 0 dX7_takeDigit_36 rfl ?_
        refine ii_bipush dX7_takeDigit_37 kb10 ?_
        refine ii_aload_n 0 dX7_takeDigit_39 rfl ?_
        refine ii_get (C := RX7) (T := TX7) (N := 10) (ci := 7) izX7 0 rfl rfl 7 (by decide) kX7_64 rfl dX7_takeDigit_40 ?_
        refine ii_imul dX7_takeDigit_43 ?_
        refine ii_iconst dX7_takeDigit_44 kc2 ?_
        refine ii_iadd dX7_takeDigit_45 ?_
        refine ii_topI h (fun x_6 h => ?_)
        refine ii_put (C := RX7) (T := TX7) (N := 10) (ci := 7) (ty0 := tyX7) (ws' := [(a_this, .inr (7, [.ref a_this_codes, .int v_this_count, .ref a_this_waiting, .int v_this_waits, .int v_this_open, .int v_this_unitIsDue, .int v_this_digits, .int v_this_firstDigit, .int v_this_number, .int x_6]))]) izX7 tyX7_ok nmX7 0 rfl rfl 9 (by decide) kX7_35 rfl rfl rfl (Nat.le_of_ble_eq_true rfl) dX7_takeDigit_46 rfl ?_
        refine ii_goto (tgt := 110) dX7_takeDigit_49 (by decide) ?_
        refine ii_lv [] rfl ?_
        cases h
        exact hjj_1
    · skip
      refine ii_if_ne (tgt := 27) h dX7_takeDigit_4 (by decide) (fun h => ?_) (fun h => ?_)
      · skip
        exact hjv_2 () h
      · skip
        refine ii_aload_n 0 dX7_takeDigit_7 rfl ?_
        refine ii_get (C := RX7) (T := TX7) (N := 10) (ci := 7) izX7 0 rfl rfl 5 (by decide) kX7_28 rfl dX7_takeDigit_8 ?_
        refine ii_if_ne (tgt := 27) h dX7_takeDigit_11 (by decide) (fun h => ?_) (fun h => ?_)
        · skip
          exact hjv_2 () h
        · skip
          refine ii_aload_n 0 dX7_takeDigit_14 rfl ?_
          refine ii_bipush dX7_takeDigit_15 kb10 ?_
          refine ii_iload_n 1 dX7_takeDigit_17 rfl ?_
          refine ii_imul dX7_takeDigit_18 ?_
          refine ii_iconst dX7_takeDigit_19 kc1 ?_
          refine ii_iadd dX7_takeDigit_20 ?_
          refine ii_topI h (fun x_7 h => ?_)
          refine ii_put (C := RX7) (T := TX7) (N := 10) (ci := 7) (ty0 := tyX7) (ws' := [(a_this, .inr (7, [.ref a_this_codes, .int v_this_count, .ref a_this_waiting, .int v_this_waits, .int v_this_open, .int v_this_unitIsDue, .int v_this_digits, .int v_this_firstDigit, .int v_this_number, .int x_7]))]) izX7 tyX7_ok nmX7 0 rfl rfl 9 (by decide) kX7_35 rfl rfl rfl (Nat.le_of_ble_eq_true rfl) dX7_takeDigit_21 rfl ?_
          refine ii_goto (tgt := 110) dX7_takeDigit_24 (by decide) ?_
          refine ii_lv [] rfl ?_
          cases h
          exact hjj_1
set_option maxHeartbeats 4000000 in
set_option maxRecDepth 100000 in
theorem c_X7_put (l : Launch) (D : va_G) (cI cJ cZ cH : ClassId) (a_this a_this_codes a_this_waiting : Nat) (v_this_codes : Nat → Int32) (v_this_count : Int32) (v_this_digits : Int32) (v_this_fault : Int32) (v_this_firstDigit : Int32) (v_this_number : Int32) (v_this_open : Int32) (v_this_unitIsDue : Int32) (v_this_waits : Int32) (p0 : Int32) {res : (Nat → Int32) × Int32} (h : F_X7_put v_this_codes v_this_count p0 = some res) : CTv l yX7_put wzX7_put { frames := 0, cells := 0, slots := 0, locals := 0 } D [(cI, .int), (cJ, .long), (cZ, .boolean), (cH, .object "TinHouse$House")] [.ref a_this, .int p0] [(a_this, .inr (7, [.ref a_this_codes, .int v_this_count, .ref a_this_waiting, .int v_this_waits, .int v_this_open, .int v_this_unitIsDue, .int v_this_digits, .int v_this_firstDigit, .int v_this_number, .int v_this_fault])), (a_this_codes, .inl (cI, 50, .inl v_this_codes))] [(a_this, .inr (7, [.ref a_this_codes, .int res.2, .ref a_this_waiting, .int v_this_waits, .int v_this_open, .int v_this_unitIsDue, .int v_this_digits, .int v_this_firstDigit, .int v_this_number, .int v_this_fault])), (a_this_codes, .inl (cI, 50, .inl res.1))] := by
  unfold F_X7_put at h
  refine ii_metV (own := RX7) (lv0 := [(0, .ref a_this), (1, .int p0)]) (by decide) rfl rfl rfl (Nat.le_of_ble_eq_true rfl) (fun {p e s m args below meth c A Q} hQ => ?_)
  refine ii_aload_n 0 dX7_put_0 rfl ?_
  refine ii_get (C := RX7) (T := TX7) (N := 10) (ci := 7) izX7 0 rfl rfl 1 (by decide) kX7_18 rfl dX7_put_1 ?_
  refine ii_jn h (fun j_1 => [(a_this, .inr (7, [.ref a_this_codes, .int j_1.2, .ref a_this_waiting, .int v_this_waits, .int v_this_open, .int v_this_unitIsDue, .int v_this_digits, .int v_this_firstDigit, .int v_this_number, .int v_this_fault])), (a_this_codes, .inl (cI, 50, .inl j_1.1))]) (fun j_1 => []) 39 (fun j_1 => []) (fun j_1 h => ?_) (fun j_1 h hjj_1 => ?_)
  · skip
    cases h
    exact hQ _ _ dX7_put_39
  · skip
    refine ii_if_lt (tgt := 39) h dX7_put_4 (by decide) (fun h => ?_) (fun h => ?_)
    · skip
      refine ii_lv [] rfl ?_
      cases h
      exact hjj_1
    · skip
      refine ii_aload_n 0 dX7_put_7 rfl ?_
      refine ii_get (C := RX7) (T := TX7) (N := 10) (ci := 7) izX7 0 rfl rfl 1 (by decide) kX7_18 rfl dX7_put_8 ?_
      refine ii_aload_n 0 dX7_put_11 rfl ?_
      refine ii_get (C := RX7) (T := TX7) (N := 10) (ci := 7) izX7 0 rfl rfl 0 (by decide) kX7_9 rfl dX7_put_12 ?_
      refine ii_alen (v := (50 : Int32)) 1 0 rfl rfl rfl dX7_put_15 ?_
      refine ii_icmp_ge (tgt := 39) h dX7_put_16 (by decide) (fun h => ?_) (fun h => ?_)
      · skip
        refine ii_lv [] rfl ?_
        cases h
        exact hjj_1
      · skip
        refine ii_aload_n 0 dX7_put_19 rfl ?_
        refine ii_get (C := RX7) (T := TX7) (N := 10) (ci := 7) izX7 0 rfl rfl 0 (by decide) kX7_9 rfl dX7_put_20 ?_
        refine ii_aload_n 0 dX7_put_23 rfl ?_
        refine ii_get (C := RX7) (T := TX7) (N := 10) (ci := 7) izX7 0 rfl rfl 1 (by decide) kX7_18 rfl dX7_put_24 ?_
        refine ii_iload_n 1 dX7_put_27 rfl ?_
        refine ii_iast (fun g_2 => [(a_this, .inr (7, [.ref a_this_codes, .int v_this_count, .ref a_this_waiting, .int v_this_waits, .int v_this_open, .int v_this_unitIsDue, .int v_this_digits, .int v_this_firstDigit, .int v_this_number, .int v_this_fault])), (a_this_codes, .inl (cI, 50, .inl g_2))]) h 1 0 rfl rfl dX7_put_28 (fun _ => rfl) (fun g_2 h => ?_)
        refine ii_aload_n 0 dX7_put_29 rfl ?_
        refine ii_dup dX7_put_30 rfl ?_
        refine ii_get (C := RX7) (T := TX7) (N := 10) (ci := 7) izX7 0 rfl rfl 1 (by decide) kX7_18 rfl dX7_put_31 ?_
        refine ii_iconst dX7_put_34 kc1 ?_
        refine ii_iadd dX7_put_35 ?_
        refine ii_topI h (fun x_3 h => ?_)
        refine ii_put (C := RX7) (T := TX7) (N := 10) (ci := 7) (ty0 := tyX7) (ws' := [(a_this, .inr (7, [.ref a_this_codes, .int x_3, .ref a_this_waiting, .int v_this_waits, .int v_this_open, .int v_this_unitIsDue, .int v_this_digits, .int v_this_firstDigit, .int v_this_number, .int v_this_fault])), (a_this_codes, .inl (cI, 50, .inl g_2))]) izX7 tyX7_ok nmX7 0 rfl rfl 1 (by decide) kX7_18 rfl rfl rfl (Nat.le_of_ble_eq_true rfl) dX7_put_36 rfl ?_
        refine ii_lv [] rfl ?_
        cases h
        exact hjj_1
set_option maxHeartbeats 4000000 in
set_option maxRecDepth 100000 in
theorem c_X7_endNumber (l : Launch) (D : va_G) (cI cJ cZ cH : ClassId) (a_this a_this_codes a_this_waiting : Nat) (v_this_codes : Nat → Int32) (v_this_count : Int32) (v_this_digits : Int32) (v_this_fault : Int32) (v_this_firstDigit : Int32) (v_this_number : Int32) (v_this_open : Int32) (v_this_unitIsDue : Int32) (v_this_waits : Int32) {res : (Nat → Int32) × Int32 × Int32} (h : F_X7_endNumber v_this_codes v_this_count v_this_digits v_this_number = some res) : CTv l yX7_endNumber wzX7_endNumber { frames := 1, cells := 0, slots := 0, locals := 21 } D [(cI, .int), (cJ, .long), (cZ, .boolean), (cH, .object "TinHouse$House")] [.ref a_this] [(a_this, .inr (7, [.ref a_this_codes, .int v_this_count, .ref a_this_waiting, .int v_this_waits, .int v_this_open, .int v_this_unitIsDue, .int v_this_digits, .int v_this_firstDigit, .int v_this_number, .int v_this_fault])), (a_this_codes, .inl (cI, 50, .inl v_this_codes))] [(a_this, .inr (7, [.ref a_this_codes, .int res.2.1, .ref a_this_waiting, .int v_this_waits, .int v_this_open, .int v_this_unitIsDue, .int res.2.2, .int v_this_firstDigit, .int v_this_number, .int v_this_fault])), (a_this_codes, .inl (cI, 50, .inl res.1))] := by
  unfold F_X7_endNumber at h
  refine ii_metV (own := RX7) (lv0 := [(0, .ref a_this)]) (by decide) rfl rfl rfl (Nat.le_of_ble_eq_true rfl) (fun {p e s m args below meth c A Q} hQ => ?_)
  refine ii_aload_n 0 dX7_endNumber_0 rfl ?_
  refine ii_get (C := RX7) (T := TX7) (N := 10) (ci := 7) izX7 0 rfl rfl 6 (by decide) kX7_32 rfl dX7_endNumber_1 ?_
  refine ii_jn h (fun j_1 => [(a_this, .inr (7, [.ref a_this_codes, .int j_1.2.1, .ref a_this_waiting, .int v_this_waits, .int v_this_open, .int v_this_unitIsDue, .int j_1.2.2, .int v_this_firstDigit, .int v_this_number, .int v_this_fault])), (a_this_codes, .inl (cI, 50, .inl j_1.1))]) (fun j_1 => []) 20 (fun j_1 => []) (fun j_1 h => ?_) (fun j_1 h hjj_1 => ?_)
  · skip
    cases h
    exact hQ _ _ dX7_endNumber_20
  · skip
    refine ii_if_le (tgt := 20) h dX7_endNumber_4 (by decide) (fun h => ?_) (fun h => ?_)
    · skip
      refine ii_lv [] rfl ?_
      cases h
      exact hjj_1
    · skip
      refine ii_aload_n 0 dX7_endNumber_7 rfl ?_
      refine ii_aload_n 0 dX7_endNumber_8 rfl ?_
      refine ii_get (C := RX7) (T := TX7) (N := 10) (ci := 7) izX7 0 rfl rfl 8 (by decide) kX7_67 rfl dX7_endNumber_9 ?_
      obtain ⟨c_2, hc_2, h⟩ := bnd h
      refine ii_callVv (As := [.int v_this_number]) (ws' := [(a_this, .inr (7, [.ref a_this_codes, .int c_2.2, .ref a_this_waiting, .int v_this_waits, .int v_this_open, .int v_this_unitIsDue, .int v_this_digits, .int v_this_firstDigit, .int v_this_number, .int v_this_fault])), (a_this_codes, .inl (cI, 50, .inl c_2.1))]) (st := []) (c_X7_put l D cI cJ cZ cH a_this a_this_codes a_this_waiting v_this_codes v_this_count v_this_digits v_this_fault v_this_firstDigit v_this_number v_this_open v_this_unitIsDue v_this_waits v_this_number hc_2) gzX7_70 rfl rfl rfl eV_X7_put ⟨Nat.le_of_ble_eq_true rfl, Nat.le_of_ble_eq_true rfl⟩ rfl 0 rfl rfl [0, 1] rfl rfl rfl rfl rfl (Nat.le_of_ble_eq_true rfl) (Nat.le_refl _) (Nat.le_refl _) rfl dX7_endNumber_12 ?_
      refine ii_aload_n 0 dX7_endNumber_15 rfl ?_
      refine ii_iconst dX7_endNumber_16 kc0 ?_
      refine ii_put (C := RX7) (T := TX7) (N := 10) (ci := 7) (ty0 := tyX7) (ws' := [(a_this, .inr (7, [.ref a_this_codes, .int c_2.2, .ref a_this_waiting, .int v_this_waits, .int v_this_open, .int v_this_unitIsDue, .int (0 : Int32), .int v_this_firstDigit, .int v_this_number, .int v_this_fault])), (a_this_codes, .inl (cI, 50, .inl c_2.1))]) izX7 tyX7_ok nmX7 0 rfl rfl 6 (by decide) kX7_32 rfl rfl rfl (Nat.le_of_ble_eq_true rfl) dX7_endNumber_17 rfl ?_
      refine ii_lv [] rfl ?_
      cases h
      exact hjj_1
set_option maxHeartbeats 4000000 in
set_option maxRecDepth 100000 in
theorem c_X7_rank (l : Launch) (D : va_G) (cI cJ cZ cH : ClassId) (p0 : Int32) {res : Int32} (h : F_X7_rank p0 = some res) : CTi l yX7_rank wzX7_rank { frames := 0, cells := 0, slots := 0, locals := 0 } D [(cI, .int), (cJ, .long), (cZ, .boolean), (cH, .object "TinHouse$House")] [.int p0] [] res [] := by
  unfold F_X7_rank at h
  refine ii_metI (own := RX7) (lv0 := [(0, .int p0)]) (by decide) rfl rfl rfl (Nat.le_of_ble_eq_true rfl) (fun {p e s m args below meth c A Q} hQ => ?_)
  refine ii_iload_n 0 dX7_rank_0 rfl ?_
  refine ii_sw h (fun hq33 h => ?_) (fun hq33 h => ?_)
  · skip
    refine ii_lookup (tgt := 121) (off := 120) dX7_rank_1 rfl (by rw [hq33] <;> decide) (by decide) ?_
    refine ii_bipush dX7_rank_121 kb7 ?_
    cases h
    exact hQ _ _ dX7_rank_123
  refine ii_sw h (fun hq38 h => ?_) (fun hq38 h => ?_)
  · skip
    refine ii_lookup (tgt := 112) (off := 111) dX7_rank_1 rfl (by rw [hq38] <;> decide) (by decide) ?_
    refine ii_iconst dX7_rank_112 kc3 ?_
    cases h
    exact hQ _ _ dX7_rank_113
  refine ii_sw h (fun hq42 h => ?_) (fun hq42 h => ?_)
  · skip
    refine ii_lookup (tgt := 118) (off := 117) dX7_rank_1 rfl (by rw [hq42] <;> decide) (by decide) ?_
    refine ii_bipush dX7_rank_118 kb6 ?_
    cases h
    exact hQ _ _ dX7_rank_120
  refine ii_sw h (fun hq43 h => ?_) (fun hq43 h => ?_)
  · skip
    refine ii_lookup (tgt := 116) (off := 115) dX7_rank_1 rfl (by rw [hq43] <;> decide) (by decide) ?_
    refine ii_iconst dX7_rank_116 kc5 ?_
    cases h
    exact hQ _ _ dX7_rank_117
  refine ii_sw h (fun hq45 h => ?_) (fun hq45 h => ?_)
  · skip
    refine ii_lookup (tgt := 116) (off := 115) dX7_rank_1 rfl (by rw [hq45] <;> decide) (by decide) ?_
    refine ii_iconst dX7_rank_116 kc5 ?_
    cases h
    exact hQ _ _ dX7_rank_117
  refine ii_sw h (fun hq47 h => ?_) (fun hq47 h => ?_)
  · skip
    refine ii_lookup (tgt := 118) (off := 117) dX7_rank_1 rfl (by rw [hq47] <;> decide) (by decide) ?_
    refine ii_bipush dX7_rank_118 kb6 ?_
    cases h
    exact hQ _ _ dX7_rank_120
  refine ii_sw h (fun hq58 h => ?_) (fun hq58 h => ?_)
  · skip
    refine ii_lookup (tgt := 108) (off := 107) dX7_rank_1 rfl (by rw [hq58] <;> decide) (by decide) ?_
    refine ii_iconst dX7_rank_108 kc1 ?_
    cases h
    exact hQ _ _ dX7_rank_109
  refine ii_sw h (fun hq60 h => ?_) (fun hq60 h => ?_)
  · skip
    refine ii_lookup (tgt := 114) (off := 113) dX7_rank_1 rfl (by rw [hq60] <;> decide) (by decide) ?_
    refine ii_iconst dX7_rank_114 kc4 ?_
    cases h
    exact hQ _ _ dX7_rank_115
  refine ii_sw h (fun hq61 h => ?_) (fun hq61 h => ?_)
  · skip
    refine ii_lookup (tgt := 114) (off := 113) dX7_rank_1 rfl (by rw [hq61] <;> decide) (by decide) ?_
    refine ii_iconst dX7_rank_114 kc4 ?_
    cases h
    exact hQ _ _ dX7_rank_115
  refine ii_sw h (fun hq62 h => ?_) (fun hq62 h => ?_)
  · skip
    refine ii_lookup (tgt := 114) (off := 113) dX7_rank_1 rfl (by rw [hq62] <;> decide) (by decide) ?_
    refine ii_iconst dX7_rank_114 kc4 ?_
    cases h
    exact hQ _ _ dX7_rank_115
  refine ii_sw h (fun hq124 h => ?_) (fun hq124 h => ?_)
  · skip
    refine ii_lookup (tgt := 110) (off := 109) dX7_rank_1 rfl (by rw [hq124] <;> decide) (by decide) ?_
    refine ii_iconst dX7_rank_110 kc2 ?_
    cases h
    exact hQ _ _ dX7_rank_111
  refine ii_sw h (fun hq126 h => ?_) (fun hq126 h => ?_)
  · skip
    refine ii_lookup (tgt := 121) (off := 120) dX7_rank_1 rfl (by rw [hq126] <;> decide) (by decide) ?_
    refine ii_bipush dX7_rank_121 kb7 ?_
    cases h
    exact hQ _ _ dX7_rank_123
  refine ii_lookup (tgt := 124) (off := 123) dX7_rank_1 rfl (by show Op.lookupswitch.offset [(33, 120), (38, 111), (42, 117), (43, 115), (45, 115), (47, 117), (58, 107), (60, 113), (61, 113), (62, 113), (124, 109), (126, 120)] _ _ = _; rw [lv_osw hq33 (a := 33) (by rfl), lv_osw hq38 (a := 38) (by rfl), lv_osw hq42 (a := 42) (by rfl), lv_osw hq43 (a := 43) (by rfl), lv_osw hq45 (a := 45) (by rfl), lv_osw hq47 (a := 47) (by rfl), lv_osw hq58 (a := 58) (by rfl), lv_osw hq60 (a := 60) (by rfl), lv_osw hq61 (a := 61) (by rfl), lv_osw hq62 (a := 62) (by rfl), lv_osw hq124 (a := 124) (by rfl), lv_osw hq126 (a := 126) (by rfl)] <;> rfl) (by decide) ?_
  refine ii_iconst dX7_rank_124 kc0 ?_
  cases h
  exact hQ _ _ dX7_rank_125
set_option maxHeartbeats 4000000 in
set_option maxRecDepth 100000 in
theorem c_X7_top (l : Launch) (D : va_G) (cI cJ cZ cH : ClassId) (a_this a_this_codes a_this_waiting : Nat) (v_this_count : Int32) (v_this_digits : Int32) (v_this_fault : Int32) (v_this_firstDigit : Int32) (v_this_number : Int32) (v_this_open : Int32) (v_this_unitIsDue : Int32) (v_this_waiting : Nat → Int32) (v_this_waits : Int32) {res : Int32} (h : F_X7_top v_this_waiting v_this_waits = some res) : CTi l yX7_top wzX7_top { frames := 0, cells := 0, slots := 0, locals := 0 } D [(cI, .int), (cJ, .long), (cZ, .boolean), (cH, .object "TinHouse$House")] [.ref a_this] [(a_this, .inr (7, [.ref a_this_codes, .int v_this_count, .ref a_this_waiting, .int v_this_waits, .int v_this_open, .int v_this_unitIsDue, .int v_this_digits, .int v_this_firstDigit, .int v_this_number, .int v_this_fault])), (a_this_waiting, .inl (cI, 50, .inl v_this_waiting))] res [(a_this, .inr (7, [.ref a_this_codes, .int v_this_count, .ref a_this_waiting, .int v_this_waits, .int v_this_open, .int v_this_unitIsDue, .int v_this_digits, .int v_this_firstDigit, .int v_this_number, .int v_this_fault])), (a_this_waiting, .inl (cI, 50, .inl v_this_waiting))] := by
  unfold F_X7_top at h
  refine ii_metI (own := RX7) (lv0 := [(0, .ref a_this)]) (by decide) rfl rfl rfl (Nat.le_of_ble_eq_true rfl) (fun {p e s m args below meth c A Q} hQ => ?_)
  refine ii_aload_n 0 dX7_top_0 rfl ?_
  refine ii_get (C := RX7) (T := TX7) (N := 10) (ci := 7) izX7 0 rfl rfl 3 (by decide) kX7_22 rfl dX7_top_1 ?_
  refine ii_jn h (fun j_1 => [(a_this, .inr (7, [.ref a_this_codes, .int v_this_count, .ref a_this_waiting, .int v_this_waits, .int v_this_open, .int v_this_unitIsDue, .int v_this_digits, .int v_this_firstDigit, .int v_this_number, .int v_this_fault])), (a_this_waiting, .inl (cI, 50, .inl v_this_waiting))]) (fun j_1 => []) 34 (fun j_1 => [.int j_1]) (fun j_1 h => ?_) (fun j_1 h hjj_1 => ?_)
  · skip
    cases h
    exact hQ _ _ dX7_top_34
  · skip
    refine ii_if_le (tgt := 33) h dX7_top_4 (by decide) (fun h => ?_) (fun h => ?_)
    · skip
      refine ii_iconst dX7_top_33 kc0 ?_
      refine ii_lv [] rfl ?_
      cases h
      exact hjj_1
    · skip
      refine ii_aload_n 0 dX7_top_7 rfl ?_
      refine ii_get (C := RX7) (T := TX7) (N := 10) (ci := 7) izX7 0 rfl rfl 3 (by decide) kX7_22 rfl dX7_top_8 ?_
      refine ii_aload_n 0 dX7_top_11 rfl ?_
      refine ii_get (C := RX7) (T := TX7) (N := 10) (ci := 7) izX7 0 rfl rfl 2 (by decide) kX7_15 rfl dX7_top_12 ?_
      refine ii_alen (v := (50 : Int32)) 1 0 rfl rfl rfl dX7_top_15 ?_
      refine ii_icmp_gt (tgt := 33) h dX7_top_16 (by decide) (fun h => ?_) (fun h => ?_)
      · skip
        refine ii_iconst dX7_top_33 kc0 ?_
        refine ii_lv [] rfl ?_
        cases h
        exact hjj_1
      · skip
        refine ii_aload_n 0 dX7_top_19 rfl ?_
        refine ii_get (C := RX7) (T := TX7) (N := 10) (ci := 7) izX7 0 rfl rfl 2 (by decide) kX7_15 rfl dX7_top_20 ?_
        refine ii_aload_n 0 dX7_top_23 rfl ?_
        refine ii_get (C := RX7) (T := TX7) (N := 10) (ci := 7) izX7 0 rfl rfl 3 (by decide) kX7_22 rfl dX7_top_24 ?_
        refine ii_iconst dX7_top_27 kc1 ?_
        refine ii_isub dX7_top_28 ?_
        refine ii_iald h 1 0 rfl rfl dX7_top_29 (fun t_2 h => ?_)
        refine ii_goto (tgt := 34) dX7_top_30 (by decide) ?_
        refine ii_lv [] rfl ?_
        cases h
        exact hjj_1
set_option maxHeartbeats 4000000 in
set_option maxRecDepth 100000 in
theorem c_X7_release (l : Launch) (D : va_G) (cI cJ cZ cH : ClassId) (a_this a_this_codes a_this_waiting : Nat) (v_this_codes : Nat → Int32) (v_this_count : Int32) (v_this_digits : Int32) (v_this_fault : Int32) (v_this_firstDigit : Int32) (v_this_number : Int32) (v_this_open : Int32) (v_this_unitIsDue : Int32) (v_this_waiting : Nat → Int32) (v_this_waits : Int32) (p0 : Int32) {res : (Nat → Int32) × Int32 × Int32} (h : F_X7_release v_this_codes v_this_count v_this_waiting v_this_waits p0 = some res) : CTv l yX7_release wzX7_release { frames := 1, cells := 0, slots := 0, locals := 21 } D [(cI, .int), (cJ, .long), (cZ, .boolean), (cH, .object "TinHouse$House")] [.ref a_this, .int p0] [(a_this, .inr (7, [.ref a_this_codes, .int v_this_count, .ref a_this_waiting, .int v_this_waits, .int v_this_open, .int v_this_unitIsDue, .int v_this_digits, .int v_this_firstDigit, .int v_this_number, .int v_this_fault])), (a_this_codes, .inl (cI, 50, .inl v_this_codes)), (a_this_waiting, .inl (cI, 50, .inl v_this_waiting))] [(a_this, .inr (7, [.ref a_this_codes, .int res.2.1, .ref a_this_waiting, .int res.2.2, .int v_this_open, .int v_this_unitIsDue, .int v_this_digits, .int v_this_firstDigit, .int v_this_number, .int v_this_fault])), (a_this_codes, .inl (cI, 50, .inl res.1)), (a_this_waiting, .inl (cI, 50, .inl v_this_waiting))] := by
  unfold F_X7_release at h
  refine ii_metV (own := RX7) (lv0 := [(0, .ref a_this), (1, .int p0)]) (by decide) rfl rfl rfl (Nat.le_of_ble_eq_true rfl) (fun {p e s m args below meth c A Q} hQ => ?_)
  refine ii_iconst dX7_release_0 kc0 ?_
  refine ii_istore_n (lv' := [(2, .int (0 : Int32)), (0, .ref a_this), (1, .int p0)]) dX7_release_1 rfl (by decide) rfl ?_
  refine ii_lv [1, 2, 0] rfl ?_
  obtain ⟨x_2, hl_1, h⟩ := bnd h
  refine ii_loopX (fun s_1 => [(a_this, .inr (7, [.ref a_this_codes, .int s_1.2.2.1, .ref a_this_waiting, .int s_1.2.2.2, .int v_this_open, .int v_this_unitIsDue, .int v_this_digits, .int v_this_firstDigit, .int v_this_number, .int v_this_fault])), (a_this_codes, .inl (cI, 50, .inl s_1.2.1)), (a_this_waiting, .inl (cI, 50, .inl v_this_waiting))]) (fun s_1 => [(0, .ref a_this), (1, .int p0), (2, .int s_1.1)]) (fun x_2 => [(a_this, .inr (7, [.ref a_this_codes, .int x_2.2.2.1, .ref a_this_waiting, .int x_2.2.2.2, .int v_this_open, .int v_this_unitIsDue, .int v_this_digits, .int v_this_firstDigit, .int v_this_number, .int v_this_fault])), (a_this_codes, .inl (cI, 50, .inl x_2.2.1)), (a_this_waiting, .inl (cI, 50, .inl v_this_waiting))]) (fun x_2 => []) 60 hl_1 rfl rfl ?_ (fun s_1 o h hb_1 hr_1 hx_1 => ?_)
  · skip
    cases h
    exact hQ _ _ dX7_release_60
  · skip
    refine ii_iload_n 2 dX7_release_2 rfl ?_
    refine ii_aload_n 0 dX7_release_3 rfl ?_
    refine ii_get (C := RX7) (T := TX7) (N := 10) (ci := 7) izX7 0 rfl rfl 2 (by decide) kX7_15 rfl dX7_release_4 ?_
    refine ii_alen (v := (50 : Int32)) 2 0 rfl rfl rfl dX7_release_7 ?_
    refine ii_icmp_ge (tgt := 60) h dX7_release_8 (by decide) (fun h => ?_) (fun h => ?_)
    · skip
      refine ii_lv [] rfl ?_
      cases h
      exact hx_1 (s_1.1, s_1.2.1, s_1.2.2.1, s_1.2.2.2) (hr_1 _ rfl)
    · skip
      refine ii_aload_n 0 dX7_release_11 rfl ?_
      obtain ⟨c_3, hc_3, h⟩ := bnd h
      refine ii_callVi (As := []) (ws' := [(a_this, .inr (7, [.ref a_this_codes, .int s_1.2.2.1, .ref a_this_waiting, .int s_1.2.2.2, .int v_this_open, .int v_this_unitIsDue, .int v_this_digits, .int v_this_firstDigit, .int v_this_number, .int v_this_fault])), (a_this_codes, .inl (cI, 50, .inl s_1.2.1)), (a_this_waiting, .inl (cI, 50, .inl v_this_waiting))]) (st := []) (c_X7_top l D cI cJ cZ cH a_this a_this_codes a_this_waiting s_1.2.2.1 v_this_digits v_this_fault v_this_firstDigit v_this_number v_this_open v_this_unitIsDue v_this_waiting s_1.2.2.2 hc_3) gzX7_91 rfl rfl rfl eV_X7_top ⟨Nat.le_of_ble_eq_true rfl, Nat.le_of_ble_eq_true rfl⟩ rfl 0 rfl rfl [0, 2] rfl rfl rfl rfl rfl (Nat.le_of_ble_eq_true rfl) (Nat.le_refl _) (Nat.le_refl _) rfl dX7_release_12 ?_
      obtain ⟨c_4, hc_4, h⟩ := bnd h
      refine ii_callSi (As := [.int c_3]) (ws' := [(a_this, .inr (7, [.ref a_this_codes, .int s_1.2.2.1, .ref a_this_waiting, .int s_1.2.2.2, .int v_this_open, .int v_this_unitIsDue, .int v_this_digits, .int v_this_firstDigit, .int v_this_number, .int v_this_fault])), (a_this_codes, .inl (cI, 50, .inl s_1.2.1)), (a_this_waiting, .inl (cI, 50, .inl v_this_waiting))]) (st := []) (c_X7_rank l D cI cJ cZ cH c_3 hc_4) gzX7_95 rfl rfl rfl eS_X7_rank ⟨Nat.le_of_ble_eq_true rfl, Nat.le_of_ble_eq_true rfl⟩ rfl [] rfl rfl rfl rfl rfl (Nat.le_of_ble_eq_true rfl) (Nat.le_refl _) (Nat.le_refl _) rfl dX7_release_15 ?_
      refine ii_iload_n 1 dX7_release_18 rfl ?_
      refine ii_icmp_lt (tgt := 60) h dX7_release_19 (by decide) (fun h => ?_) (fun h => ?_)
      · skip
        refine ii_lv [] rfl ?_
        cases h
        exact hx_1 (s_1.1, s_1.2.1, s_1.2.2.1, s_1.2.2.2) (hr_1 _ rfl)
      · skip
        refine ii_aload_n 0 dX7_release_22 rfl ?_
        obtain ⟨c_5, hc_5, h⟩ := bnd h
        refine ii_callVi (As := []) (ws' := [(a_this, .inr (7, [.ref a_this_codes, .int s_1.2.2.1, .ref a_this_waiting, .int s_1.2.2.2, .int v_this_open, .int v_this_unitIsDue, .int v_this_digits, .int v_this_firstDigit, .int v_this_number, .int v_this_fault])), (a_this_codes, .inl (cI, 50, .inl s_1.2.1)), (a_this_waiting, .inl (cI, 50, .inl v_this_waiting))]) (st := []) (c_X7_top l D cI cJ cZ cH a_this a_this_codes a_this_waiting s_1.2.2.1 v_this_digits v_this_fault v_this_firstDigit v_this_number v_this_open v_this_unitIsDue v_this_waiting s_1.2.2.2 hc_5) gzX7_91 rfl rfl rfl eV_X7_top ⟨Nat.le_of_ble_eq_true rfl, Nat.le_of_ble_eq_true rfl⟩ rfl 0 rfl rfl [0, 2] rfl rfl rfl rfl rfl (Nat.le_of_ble_eq_true rfl) (Nat.le_refl _) (Nat.le_refl _) rfl dX7_release_23 ?_
        refine ii_istore_n (lv' := [(3, .int c_5), (0, .ref a_this), (1, .int p0), (2, .int s_1.1)]) dX7_release_26 rfl (by decide) rfl ?_
        refine ii_aload_n 1 dX7_release_27 rfl ?_
        refine ii_iload_n 0 dX7_release_28 rfl ?_
        refine ii_bipush dX7_release_29 kb58 ?_
        refine ii_jn h (fun j_6 => [(a_this, .inr (7, [.ref a_this_codes, .int s_1.2.2.1, .ref a_this_waiting, .int s_1.2.2.2, .int v_this_open, .int v_this_unitIsDue, .int v_this_digits, .int v_this_firstDigit, .int v_this_number, .int v_this_fault])), (a_this_codes, .inl (cI, 50, .inl s_1.2.1)), (a_this_waiting, .inl (cI, 50, .inl v_this_waiting))]) (fun j_6 => [(0, .ref a_this), (1, .int p0), (2, .int s_1.1)]) 41 (fun j_6 => [.int j_6, .ref a_this]) (fun j_6 h => ?_) (fun j_6 h hjj_6 => ?_)
        · skip
          obtain ⟨c_7, hc_7, h⟩ := bnd h
          refine ii_callVv (As := [.int j_6]) (ws' := [(a_this, .inr (7, [.ref a_this_codes, .int c_7.2, .ref a_this_waiting, .int s_1.2.2.2, .int v_this_open, .int v_this_unitIsDue, .int v_this_digits, .int v_this_firstDigit, .int v_this_number, .int v_this_fault])), (a_this_codes, .inl (cI, 50, .inl c_7.1)), (a_this_waiting, .inl (cI, 50, .inl v_this_waiting))]) (st := []) (c_X7_put l D cI cJ cZ cH a_this a_this_codes a_this_waiting s_1.2.1 s_1.2.2.1 v_this_digits v_this_fault v_this_firstDigit v_this_number v_this_open v_this_unitIsDue s_1.2.2.2 j_6 hc_7) gzX7_70 rfl rfl rfl eV_X7_put ⟨Nat.le_of_ble_eq_true rfl, Nat.le_of_ble_eq_true rfl⟩ rfl 0 rfl rfl [0, 1] rfl rfl rfl rfl rfl (Nat.le_of_ble_eq_true rfl) (Nat.le_refl _) (Nat.le_refl _) rfl dX7_release_41 ?_
          refine ii_aload_n 0 dX7_release_44 rfl ?_
          refine ii_dup dX7_release_45 rfl ?_
          refine ii_get (C := RX7) (T := TX7) (N := 10) (ci := 7) izX7 0 rfl rfl 3 (by decide) kX7_22 rfl dX7_release_46 ?_
          refine ii_iconst dX7_release_49 kc1 ?_
          refine ii_isub dX7_release_50 ?_
          refine ii_topI h (fun x_8 h => ?_)
          refine ii_put (C := RX7) (T := TX7) (N := 10) (ci := 7) (ty0 := tyX7) (ws' := [(a_this, .inr (7, [.ref a_this_codes, .int c_7.2, .ref a_this_waiting, .int x_8, .int v_this_open, .int v_this_unitIsDue, .int v_this_digits, .int v_this_firstDigit, .int v_this_number, .int v_this_fault])), (a_this_codes, .inl (cI, 50, .inl c_7.1)), (a_this_waiting, .inl (cI, 50, .inl v_this_waiting))]) izX7 tyX7_ok nmX7 0 rfl rfl 3 (by decide) kX7_22 rfl rfl rfl (Nat.le_of_ble_eq_true rfl) dX7_release_51 rfl ?_
          refine ii_iinc (fun x_9 => [(2, .int x_9), (0, .ref a_this), (1, .int p0)]) h 2 dX7_release_54 rfl kc1 (by decide) (fun _ => rfl) (fun x_9 h => ?_)
          refine ii_goto (tgt := 2) dX7_release_57 (by decide) ?_
          refine ii_lv [1, 2, 0] rfl ?_
          cases h
          exact hb_1 (x_9, c_7.1, c_7.2, x_8) rfl
        · skip
          refine ii_icmp_ne (tgt := 39) h dX7_release_31 (by decide) (fun h => ?_) (fun h => ?_)
          · skip
            refine ii_iload_n 0 dX7_release_39 rfl ?_
            refine ii_ineg dX7_release_40 ?_
            refine ii_lv [1, 2, 3] rfl ?_
            cases h
            exact hjj_6
          · skip
            refine ii_bipush dX7_release_34 kbm63 ?_
            refine ii_goto (tgt := 41) dX7_release_36 (by decide) ?_
            refine ii_lv [1, 2, 3] rfl ?_
            cases h
            exact hjj_6
set_option maxHeartbeats 4000000 in
set_option maxRecDepth 100000 in
theorem c_X7_push (l : Launch) (D : va_G) (cI cJ cZ cH : ClassId) (a_this a_this_codes a_this_waiting : Nat) (v_this_count : Int32) (v_this_digits : Int32) (v_this_fault : Int32) (v_this_firstDigit : Int32) (v_this_number : Int32) (v_this_open : Int32) (v_this_unitIsDue : Int32) (v_this_waiting : Nat → Int32) (v_this_waits : Int32) (p0 : Int32) {res : (Nat → Int32) × Int32} (h : F_X7_push v_this_waiting v_this_waits p0 = some res) : CTv l yX7_push wzX7_push { frames := 0, cells := 0, slots := 0, locals := 0 } D [(cI, .int), (cJ, .long), (cZ, .boolean), (cH, .object "TinHouse$House")] [.ref a_this, .int p0] [(a_this, .inr (7, [.ref a_this_codes, .int v_this_count, .ref a_this_waiting, .int v_this_waits, .int v_this_open, .int v_this_unitIsDue, .int v_this_digits, .int v_this_firstDigit, .int v_this_number, .int v_this_fault])), (a_this_waiting, .inl (cI, 50, .inl v_this_waiting))] [(a_this, .inr (7, [.ref a_this_codes, .int v_this_count, .ref a_this_waiting, .int res.2, .int v_this_open, .int v_this_unitIsDue, .int v_this_digits, .int v_this_firstDigit, .int v_this_number, .int v_this_fault])), (a_this_waiting, .inl (cI, 50, .inl res.1))] := by
  unfold F_X7_push at h
  refine ii_metV (own := RX7) (lv0 := [(0, .ref a_this), (1, .int p0)]) (by decide) rfl rfl rfl (Nat.le_of_ble_eq_true rfl) (fun {p e s m args below meth c A Q} hQ => ?_)
  refine ii_aload_n 0 dX7_push_0 rfl ?_
  refine ii_get (C := RX7) (T := TX7) (N := 10) (ci := 7) izX7 0 rfl rfl 3 (by decide) kX7_22 rfl dX7_push_1 ?_
  refine ii_jn h (fun j_1 => [(a_this, .inr (7, [.ref a_this_codes, .int v_this_count, .ref a_this_waiting, .int j_1.2, .int v_this_open, .int v_this_unitIsDue, .int v_this_digits, .int v_this_firstDigit, .int v_this_number, .int v_this_fault])), (a_this_waiting, .inl (cI, 50, .inl j_1.1))]) (fun j_1 => []) 39 (fun j_1 => []) (fun j_1 h => ?_) (fun j_1 h hjj_1 => ?_)
  · skip
    cases h
    exact hQ _ _ dX7_push_39
  · skip
    refine ii_if_lt (tgt := 39) h dX7_push_4 (by decide) (fun h => ?_) (fun h => ?_)
    · skip
      refine ii_lv [] rfl ?_
      cases h
      exact hjj_1
    · skip
      refine ii_aload_n 0 dX7_push_7 rfl ?_
      refine ii_get (C := RX7) (T := TX7) (N := 10) (ci := 7) izX7 0 rfl rfl 3 (by decide) kX7_22 rfl dX7_push_8 ?_
      refine ii_aload_n 0 dX7_push_11 rfl ?_
      refine ii_get (C := RX7) (T := TX7) (N := 10) (ci := 7) izX7 0 rfl rfl 2 (by decide) kX7_15 rfl dX7_push_12 ?_
      refine ii_alen (v := (50 : Int32)) 1 0 rfl rfl rfl dX7_push_15 ?_
      refine ii_icmp_ge (tgt := 39) h dX7_push_16 (by decide) (fun h => ?_) (fun h => ?_)
      · skip
        refine ii_lv [] rfl ?_
        cases h
        exact hjj_1
      · skip
        refine ii_aload_n 0 dX7_push_19 rfl ?_
        refine ii_get (C := RX7) (T := TX7) (N := 10) (ci := 7) izX7 0 rfl rfl 2 (by decide) kX7_15 rfl dX7_push_20 ?_
        refine ii_aload_n 0 dX7_push_23 rfl ?_
        refine ii_get (C := RX7) (T := TX7) (N := 10) (ci := 7) izX7 0 rfl rfl 3 (by decide) kX7_22 rfl dX7_push_24 ?_
        refine ii_iload_n 1 dX7_push_27 rfl ?_
        refine ii_iast (fun g_2 => [(a_this, .inr (7, [.ref a_this_codes, .int v_this_count, .ref a_this_waiting, .int v_this_waits, .int v_this_open, .int v_this_unitIsDue, .int v_this_digits, .int v_this_firstDigit, .int v_this_number, .int v_this_fault])), (a_this_waiting, .inl (cI, 50, .inl g_2))]) h 1 0 rfl rfl dX7_push_28 (fun _ => rfl) (fun g_2 h => ?_)
        refine ii_aload_n 0 dX7_push_29 rfl ?_
        refine ii_dup dX7_push_30 rfl ?_
        refine ii_get (C := RX7) (T := TX7) (N := 10) (ci := 7) izX7 0 rfl rfl 3 (by decide) kX7_22 rfl dX7_push_31 ?_
        refine ii_iconst dX7_push_34 kc1 ?_
        refine ii_iadd dX7_push_35 ?_
        refine ii_topI h (fun x_3 h => ?_)
        refine ii_put (C := RX7) (T := TX7) (N := 10) (ci := 7) (ty0 := tyX7) (ws' := [(a_this, .inr (7, [.ref a_this_codes, .int v_this_count, .ref a_this_waiting, .int x_3, .int v_this_open, .int v_this_unitIsDue, .int v_this_digits, .int v_this_firstDigit, .int v_this_number, .int v_this_fault])), (a_this_waiting, .inl (cI, 50, .inl g_2))]) izX7 tyX7_ok nmX7 0 rfl rfl 3 (by decide) kX7_22 rfl rfl rfl (Nat.le_of_ble_eq_true rfl) dX7_push_36 rfl ?_
        refine ii_lv [] rfl ?_
        cases h
        exact hjj_1
set_option maxHeartbeats 4000000 in
set_option maxRecDepth 100000 in
theorem c_X7_join (l : Launch) (D : va_G) (cI cJ cZ cH : ClassId) (a_this a_this_codes a_this_waiting : Nat) (v_this_codes : Nat → Int32) (v_this_count : Int32) (v_this_digits : Int32) (v_this_fault : Int32) (v_this_firstDigit : Int32) (v_this_number : Int32) (v_this_open : Int32) (v_this_unitIsDue : Int32) (v_this_waiting : Nat → Int32) (v_this_waits : Int32) (p0 : Int32) (p1 : Int32) {res : (Nat → Int32) × Int32 × Int32 × Int32 × (Nat → Int32) × Int32} (h : F_X7_join v_this_codes v_this_count v_this_fault v_this_unitIsDue v_this_waiting v_this_waits p0 p1 = some res) : CTv l yX7_join wzX7_join { frames := 2, cells := 0, slots := 0, locals := 44 } D [(cI, .int), (cJ, .long), (cZ, .boolean), (cH, .object "TinHouse$House")] [.ref a_this, .int p0, .int p1] [(a_this, .inr (7, [.ref a_this_codes, .int v_this_count, .ref a_this_waiting, .int v_this_waits, .int v_this_open, .int v_this_unitIsDue, .int v_this_digits, .int v_this_firstDigit, .int v_this_number, .int v_this_fault])), (a_this_codes, .inl (cI, 50, .inl v_this_codes)), (a_this_waiting, .inl (cI, 50, .inl v_this_waiting))] [(a_this, .inr (7, [.ref a_this_codes, .int res.2.1, .ref a_this_waiting, .int res.2.2.2.2.2, .int v_this_open, .int res.2.2.2.1, .int v_this_digits, .int v_this_firstDigit, .int v_this_number, .int res.2.2.1])), (a_this_codes, .inl (cI, 50, .inl res.1)), (a_this_waiting, .inl (cI, 50, .inl res.2.2.2.2.1))] := by
  unfold F_X7_join at h
  refine ii_metV (own := RX7) (lv0 := [(0, .ref a_this), (1, .int p0), (2, .int p1)]) (by decide) rfl rfl rfl (Nat.le_of_ble_eq_true rfl) (fun {p e s m args below meth c A Q} hQ => ?_)
  refine ii_iload_n 2 dX7_join_0 rfl ?_
  obtain ⟨c_1, hc_1, h⟩ := bnd h
  refine ii_callSi (As := [.int p1]) (ws' := [(a_this, .inr (7, [.ref a_this_codes, .int v_this_count, .ref a_this_waiting, .int v_this_waits, .int v_this_open, .int v_this_unitIsDue, .int v_this_digits, .int v_this_firstDigit, .int v_this_number, .int v_this_fault])), (a_this_codes, .inl (cI, 50, .inl v_this_codes)), (a_this_waiting, .inl (cI, 50, .inl v_this_waiting))]) (st := []) (c_X7_rank l D cI cJ cZ cH p1 hc_1) gzX7_95 rfl rfl rfl eS_X7_rank ⟨Nat.le_of_ble_eq_true rfl, Nat.le_of_ble_eq_true rfl⟩ rfl [] rfl rfl rfl rfl rfl (Nat.le_of_ble_eq_true rfl) (Nat.le_refl _) (Nat.le_refl _) rfl dX7_join_1 ?_
  refine ii_istore_n (lv' := [(3, .int c_1), (0, .ref a_this), (1, .int p0), (2, .int p1)]) dX7_join_4 rfl (by decide) rfl ?_
  refine ii_iload_n 0 dX7_join_5 rfl ?_
  refine ii_iconst dX7_join_6 kc1 ?_
  refine ii_jf (r := res) (J_X7_join_2_16 p0 v_this_codes v_this_count v_this_unitIsDue v_this_waiting v_this_waits) (fun v_2 => [(a_this, .inr (7, [.ref a_this_codes, .int v_this_count, .ref a_this_waiting, .int v_this_waits, .int v_this_open, .int v_this_unitIsDue, .int v_this_digits, .int v_this_firstDigit, .int v_this_number, .int v_this_fault])), (a_this_codes, .inl (cI, 50, .inl v_this_codes)), (a_this_waiting, .inl (cI, 50, .inl v_this_waiting))]) (fun v_2 => [(0, .ref a_this), (1, .int p0)]) 16 (fun v_2 => []) (fun v_2 h => ?_) (fun hjv_2 => ?_)
  · skip
    refine ii_aload_n 0 dX7_join_16 rfl ?_
    refine ii_bipush dX7_join_17 kb10 ?_
    refine ii_iload_n 1 dX7_join_19 rfl ?_
    refine ii_imul dX7_join_20 ?_
    refine ii_iconst dX7_join_21 kc1 ?_
    refine ii_iadd dX7_join_22 ?_
    refine ii_topI h (fun x_3 h => ?_)
    refine ii_put (C := RX7) (T := TX7) (N := 10) (ci := 7) (ty0 := tyX7) (ws' := [(a_this, .inr (7, [.ref a_this_codes, .int v_this_count, .ref a_this_waiting, .int v_this_waits, .int v_this_open, .int v_this_unitIsDue, .int v_this_digits, .int v_this_firstDigit, .int v_this_number, .int x_3])), (a_this_codes, .inl (cI, 50, .inl v_this_codes)), (a_this_waiting, .inl (cI, 50, .inl v_this_waiting))]) izX7 tyX7_ok nmX7 0 rfl rfl 9 (by decide) kX7_35 rfl rfl rfl (Nat.le_of_ble_eq_true rfl) dX7_join_23 rfl ?_
    cases h
    exact hQ _ _ dX7_join_26
  · skip
    refine ii_icmp_le (tgt := 16) h dX7_join_7 (by decide) (fun h => ?_) (fun h => ?_)
    · skip
      refine ii_lv [1, 2] rfl ?_
      exact hjv_2 () h
    · skip
      refine ii_iload_n 0 dX7_join_10 rfl ?_
      refine ii_bipush dX7_join_11 kb7 ?_
      refine ii_icmp_lt (tgt := 27) h dX7_join_13 (by decide) (fun h => ?_) (fun h => ?_)
      · skip
        refine ii_aload_n 1 dX7_join_27 rfl ?_
        refine ii_iload_n 0 dX7_join_28 rfl ?_
        refine ii_iconst dX7_join_29 kc4 ?_
        refine ii_jn h (fun j_4 => [(a_this, .inr (7, [.ref a_this_codes, .int v_this_count, .ref a_this_waiting, .int v_this_waits, .int v_this_open, .int v_this_unitIsDue, .int v_this_digits, .int v_this_firstDigit, .int v_this_number, .int v_this_fault])), (a_this_codes, .inl (cI, 50, .inl v_this_codes)), (a_this_waiting, .inl (cI, 50, .inl v_this_waiting))]) (fun j_4 => [(0, .ref a_this), (1, .int p0), (2, .int p1), (3, .int c_1)]) 38 (fun j_4 => [.int j_4, .ref a_this]) (fun j_4 h => ?_) (fun j_4 h hjj_4 => ?_)
        · skip
          obtain ⟨c_5, hc_5, h⟩ := bnd h
          refine ii_callVv (As := [.int j_4]) (ws' := [(a_this, .inr (7, [.ref a_this_codes, .int c_5.2.1, .ref a_this_waiting, .int c_5.2.2, .int v_this_open, .int v_this_unitIsDue, .int v_this_digits, .int v_this_firstDigit, .int v_this_number, .int v_this_fault])), (a_this_codes, .inl (cI, 50, .inl c_5.1)), (a_this_waiting, .inl (cI, 50, .inl v_this_waiting))]) (st := []) (c_X7_release l D cI cJ cZ cH a_this a_this_codes a_this_waiting v_this_codes v_this_count v_this_digits v_this_fault v_this_firstDigit v_this_number v_this_open v_this_unitIsDue v_this_waiting v_this_waits j_4 hc_5) gzX7_85 rfl rfl rfl eV_X7_release ⟨Nat.le_of_ble_eq_true rfl, Nat.le_of_ble_eq_true rfl⟩ rfl 0 rfl rfl [0, 1, 2] rfl rfl rfl rfl rfl (Nat.le_of_ble_eq_true rfl) (Nat.le_refl _) (Nat.le_refl _) rfl dX7_join_38 ?_
          refine ii_iload_n 3 dX7_join_41 rfl ?_
          refine ii_iconst dX7_join_42 kc4 ?_
          refine ii_jf (r := res) (J_X7_join_3_68 v_this_waiting c_5 p1 v_this_fault) (fun v_6 => [(a_this, .inr (7, [.ref a_this_codes, .int c_5.2.1, .ref a_this_waiting, .int c_5.2.2, .int v_this_open, .int v_this_unitIsDue, .int v_this_digits, .int v_this_firstDigit, .int v_this_number, .int v_this_fault])), (a_this_codes, .inl (cI, 50, .inl c_5.1)), (a_this_waiting, .inl (cI, 50, .inl v_this_waiting))]) (fun v_6 => [(0, .ref a_this), (2, .int p1)]) 68 (fun v_6 => []) (fun v_6 h => ?_) (fun hjv_6 => ?_)
          · skip
            refine ii_aload_n 0 dX7_join_68 rfl ?_
            refine ii_iload_n 1 dX7_join_69 rfl ?_
            obtain ⟨c_7, hc_7, h⟩ := bnd h
            refine ii_callVv (As := [.int p1]) (ws' := [(a_this, .inr (7, [.ref a_this_codes, .int c_5.2.1, .ref a_this_waiting, .int c_7.2, .int v_this_open, .int v_this_unitIsDue, .int v_this_digits, .int v_this_firstDigit, .int v_this_number, .int v_this_fault])), (a_this_codes, .inl (cI, 50, .inl c_5.1)), (a_this_waiting, .inl (cI, 50, .inl c_7.1))]) (st := []) (c_X7_push l D cI cJ cZ cH a_this a_this_codes a_this_waiting c_5.2.1 v_this_digits v_this_fault v_this_firstDigit v_this_number v_this_open v_this_unitIsDue v_this_waiting c_5.2.2 p1 hc_7) gzX7_73 rfl rfl rfl eV_X7_push ⟨Nat.le_of_ble_eq_true rfl, Nat.le_of_ble_eq_true rfl⟩ rfl 0 rfl rfl [0, 2] rfl rfl rfl rfl rfl (Nat.le_of_ble_eq_true rfl) (Nat.le_refl _) (Nat.le_refl _) rfl dX7_join_70 ?_
            refine ii_aload_n 0 dX7_join_73 rfl ?_
            refine ii_iconst dX7_join_74 kc1 ?_
            refine ii_put (C := RX7) (T := TX7) (N := 10) (ci := 7) (ty0 := tyX7) (ws' := [(a_this, .inr (7, [.ref a_this_codes, .int c_5.2.1, .ref a_this_waiting, .int c_7.2, .int v_this_open, .int (1 : Int32), .int v_this_digits, .int v_this_firstDigit, .int v_this_number, .int v_this_fault])), (a_this_codes, .inl (cI, 50, .inl c_5.1)), (a_this_waiting, .inl (cI, 50, .inl c_7.1))]) izX7 tyX7_ok nmX7 0 rfl rfl 5 (by decide) kX7_28 rfl rfl rfl (Nat.le_of_ble_eq_true rfl) dX7_join_75 rfl ?_
            cases h
            exact hQ _ _ dX7_join_78
          · skip
            refine ii_icmp_ne (tgt := 68) h dX7_join_43 (by decide) (fun h => ?_) (fun h => ?_)
            · skip
              refine ii_lv [0, 2] rfl ?_
              exact hjv_6 () h
            · skip
              refine ii_aload_n 0 dX7_join_46 rfl ?_
              obtain ⟨c_8, hc_8, h⟩ := bnd h
              refine ii_callVi (As := []) (ws' := [(a_this, .inr (7, [.ref a_this_codes, .int c_5.2.1, .ref a_this_waiting, .int c_5.2.2, .int v_this_open, .int v_this_unitIsDue, .int v_this_digits, .int v_this_firstDigit, .int v_this_number, .int v_this_fault])), (a_this_codes, .inl (cI, 50, .inl c_5.1)), (a_this_waiting, .inl (cI, 50, .inl v_this_waiting))]) (st := []) (c_X7_top l D cI cJ cZ cH a_this a_this_codes a_this_waiting c_5.2.1 v_this_digits v_this_fault v_this_firstDigit v_this_number v_this_open v_this_unitIsDue v_this_waiting c_5.2.2 hc_8) gzX7_91 rfl rfl rfl eV_X7_top ⟨Nat.le_of_ble_eq_true rfl, Nat.le_of_ble_eq_true rfl⟩ rfl 0 rfl rfl [0, 2] rfl rfl rfl rfl rfl (Nat.le_of_ble_eq_true rfl) (Nat.le_refl _) (Nat.le_refl _) rfl dX7_join_47 ?_
              obtain ⟨c_9, hc_9, h⟩ := bnd h
              refine ii_callSi (As := [.int c_8]) (ws' := [(a_this, .inr (7, [.ref a_this_codes, .int c_5.2.1, .ref a_this_waiting, .int c_5.2.2, .int v_this_open, .int v_this_unitIsDue, .int v_this_digits, .int v_this_firstDigit, .int v_this_number, .int v_this_fault])), (a_this_codes, .inl (cI, 50, .inl c_5.1)), (a_this_waiting, .inl (cI, 50, .inl v_this_waiting))]) (st := []) (c_X7_rank l D cI cJ cZ cH c_8 hc_9) gzX7_95 rfl rfl rfl eS_X7_rank ⟨Nat.le_of_ble_eq_true rfl, Nat.le_of_ble_eq_true rfl⟩ rfl [] rfl rfl rfl rfl rfl (Nat.le_of_ble_eq_true rfl) (Nat.le_refl _) (Nat.le_refl _) rfl dX7_join_50 ?_
              refine ii_iconst dX7_join_53 kc4 ?_
              refine ii_icmp_ne (tgt := 68) h dX7_join_54 (by decide) (fun h => ?_) (fun h => ?_)
              · skip
                refine ii_lv [0, 2] rfl ?_
                exact hjv_6 () h
              · skip
                refine ii_aload_n 0 dX7_join_57 rfl ?_
                refine ii_bipush dX7_join_58 kb10 ?_
                refine ii_iload_n 1 dX7_join_60 rfl ?_
                refine ii_imul dX7_join_61 ?_
                refine ii_iconst dX7_join_62 kc1 ?_
                refine ii_iadd dX7_join_63 ?_
                refine ii_topI h (fun x_10 h => ?_)
                refine ii_put (C := RX7) (T := TX7) (N := 10) (ci := 7) (ty0 := tyX7) (ws' := [(a_this, .inr (7, [.ref a_this_codes, .int c_5.2.1, .ref a_this_waiting, .int c_5.2.2, .int v_this_open, .int v_this_unitIsDue, .int v_this_digits, .int v_this_firstDigit, .int v_this_number, .int x_10])), (a_this_codes, .inl (cI, 50, .inl c_5.1)), (a_this_waiting, .inl (cI, 50, .inl v_this_waiting))]) izX7 tyX7_ok nmX7 0 rfl rfl 9 (by decide) kX7_35 rfl rfl rfl (Nat.le_of_ble_eq_true rfl) dX7_join_64 rfl ?_
                cases h
                exact hQ _ _ dX7_join_67
        · skip
          refine ii_icmp_ne (tgt := 37) h dX7_join_30 (by decide) (fun h => ?_) (fun h => ?_)
          · skip
            refine ii_iload_n 0 dX7_join_37 rfl ?_
            refine ii_lv [1, 2, 3, 0] rfl ?_
            cases h
            exact hjj_4
          · skip
            refine ii_iconst dX7_join_33 kc5 ?_
            refine ii_goto (tgt := 38) dX7_join_34 (by decide) ?_
            refine ii_lv [1, 2, 3, 0] rfl ?_
            cases h
            exact hjj_4
      · skip
        refine ii_lv [1, 2] rfl ?_
        exact hjv_2 () h
set_option maxHeartbeats 4000000 in
set_option maxRecDepth 100000 in
theorem c_X7_turn (l : Launch) (D : va_G) (cI cJ cZ cH : ClassId) (a_this a_this_codes a_this_waiting : Nat) (v_this_codes : Nat → Int32) (v_this_count : Int32) (v_this_digits : Int32) (v_this_fault : Int32) (v_this_firstDigit : Int32) (v_this_number : Int32) (v_this_open : Int32) (v_this_unitIsDue : Int32) (v_this_waiting : Nat → Int32) (v_this_waits : Int32) (p0 : Int32) {res : (Nat → Int32) × Int32 × Int32 × Int32 × (Nat → Int32) × Int32} (h : F_X7_turn v_this_codes v_this_count v_this_fault v_this_unitIsDue v_this_waiting v_this_waits p0 = some res) : CTv l yX7_turn wzX7_turn { frames := 2, cells := 0, slots := 0, locals := 44 } D [(cI, .int), (cJ, .long), (cZ, .boolean), (cH, .object "TinHouse$House")] [.ref a_this, .int p0] [(a_this, .inr (7, [.ref a_this_codes, .int v_this_count, .ref a_this_waiting, .int v_this_waits, .int v_this_open, .int v_this_unitIsDue, .int v_this_digits, .int v_this_firstDigit, .int v_this_number, .int v_this_fault])), (a_this_codes, .inl (cI, 50, .inl v_this_codes)), (a_this_waiting, .inl (cI, 50, .inl v_this_waiting))] [(a_this, .inr (7, [.ref a_this_codes, .int res.2.1, .ref a_this_waiting, .int res.2.2.2.2.2, .int v_this_open, .int res.2.2.2.1, .int v_this_digits, .int v_this_firstDigit, .int v_this_number, .int res.2.2.1])), (a_this_codes, .inl (cI, 50, .inl res.1)), (a_this_waiting, .inl (cI, 50, .inl res.2.2.2.2.1))] := by
  unfold F_X7_turn at h
  refine ii_metV (own := RX7) (lv0 := [(0, .ref a_this), (1, .int p0)]) (by decide) rfl rfl rfl (Nat.le_of_ble_eq_true rfl) (fun {p e s m args below meth c A Q} hQ => ?_)
  refine ii_aload_n 0 dX7_turn_0 rfl ?_
  refine ii_iconst dX7_turn_1 kc1 ?_
  obtain ⟨c_1, hc_1, h⟩ := bnd h
  refine ii_callVv (As := [.int (1 : Int32)]) (ws' := [(a_this, .inr (7, [.ref a_this_codes, .int c_1.2.1, .ref a_this_waiting, .int c_1.2.2, .int v_this_open, .int v_this_unitIsDue, .int v_this_digits, .int v_this_firstDigit, .int v_this_number, .int v_this_fault])), (a_this_codes, .inl (cI, 50, .inl c_1.1)), (a_this_waiting, .inl (cI, 50, .inl v_this_waiting))]) (st := []) (c_X7_release l D cI cJ cZ cH a_this a_this_codes a_this_waiting v_this_codes v_this_count v_this_digits v_this_fault v_this_firstDigit v_this_number v_this_open v_this_unitIsDue v_this_waiting v_this_waits (1 : Int32) hc_1) gzX7_85 rfl rfl rfl eV_X7_release ⟨Nat.le_of_ble_eq_true rfl, Nat.le_of_ble_eq_true rfl⟩ rfl 0 rfl rfl [0, 1, 2] rfl rfl rfl rfl rfl (Nat.le_of_ble_eq_true rfl) (Nat.le_refl _) (Nat.le_refl _) rfl dX7_turn_2 ?_
  refine ii_aload_n 0 dX7_turn_5 rfl ?_
  obtain ⟨c_2, hc_2, h⟩ := bnd h
  refine ii_callVi (As := []) (ws' := [(a_this, .inr (7, [.ref a_this_codes, .int c_1.2.1, .ref a_this_waiting, .int c_1.2.2, .int v_this_open, .int v_this_unitIsDue, .int v_this_digits, .int v_this_firstDigit, .int v_this_number, .int v_this_fault])), (a_this_codes, .inl (cI, 50, .inl c_1.1)), (a_this_waiting, .inl (cI, 50, .inl v_this_waiting))]) (st := []) (c_X7_top l D cI cJ cZ cH a_this a_this_codes a_this_waiting c_1.2.1 v_this_digits v_this_fault v_this_firstDigit v_this_number v_this_open v_this_unitIsDue v_this_waiting c_1.2.2 hc_2) gzX7_91 rfl rfl rfl eV_X7_top ⟨Nat.le_of_ble_eq_true rfl, Nat.le_of_ble_eq_true rfl⟩ rfl 0 rfl rfl [0, 2] rfl rfl rfl rfl rfl (Nat.le_of_ble_eq_true rfl) (Nat.le_refl _) (Nat.le_refl _) rfl dX7_turn_6 ?_
  refine ii_bipush dX7_turn_9 kb63 ?_
  refine ii_jn h (fun j_3 => [(a_this, .inr (7, [.ref a_this_codes, .int c_1.2.1, .ref a_this_waiting, .int j_3.2.2.2, .int v_this_open, .int j_3.2.1, .int v_this_digits, .int v_this_firstDigit, .int v_this_number, .int j_3.1])), (a_this_codes, .inl (cI, 50, .inl c_1.1)), (a_this_waiting, .inl (cI, 50, .inl j_3.2.2.1))]) (fun j_3 => []) 48 (fun j_3 => []) (fun j_3 h => ?_) (fun j_3 h hjj_3 => ?_)
  · skip
    cases h
    exact hQ _ _ dX7_turn_48
  · skip
    refine ii_icmp_ne (tgt := 38) h dX7_turn_11 (by decide) (fun h => ?_) (fun h => ?_)
    · skip
      refine ii_aload_n 0 dX7_turn_38 rfl ?_
      refine ii_bipush dX7_turn_39 kb10 ?_
      refine ii_iload_n 1 dX7_turn_41 rfl ?_
      refine ii_imul dX7_turn_42 ?_
      refine ii_iconst dX7_turn_43 kc1 ?_
      refine ii_iadd dX7_turn_44 ?_
      refine ii_topI h (fun x_4 h => ?_)
      refine ii_put (C := RX7) (T := TX7) (N := 10) (ci := 7) (ty0 := tyX7) (ws' := [(a_this, .inr (7, [.ref a_this_codes, .int c_1.2.1, .ref a_this_waiting, .int c_1.2.2, .int v_this_open, .int v_this_unitIsDue, .int v_this_digits, .int v_this_firstDigit, .int v_this_number, .int x_4])), (a_this_codes, .inl (cI, 50, .inl c_1.1)), (a_this_waiting, .inl (cI, 50, .inl v_this_waiting))]) izX7 tyX7_ok nmX7 0 rfl rfl 9 (by decide) kX7_35 rfl rfl rfl (Nat.le_of_ble_eq_true rfl) dX7_turn_45 rfl ?_
      refine ii_lv [] rfl ?_
      cases h
      exact hjj_3
    · skip
      refine ii_aload_n 0 dX7_turn_14 rfl ?_
      refine ii_dup dX7_turn_15 rfl ?_
      refine ii_get (C := RX7) (T := TX7) (N := 10) (ci := 7) izX7 0 rfl rfl 3 (by decide) kX7_22 rfl dX7_turn_16 ?_
      refine ii_iconst dX7_turn_19 kc1 ?_
      refine ii_isub dX7_turn_20 ?_
      refine ii_topI h (fun x_5 h => ?_)
      refine ii_put (C := RX7) (T := TX7) (N := 10) (ci := 7) (ty0 := tyX7) (ws' := [(a_this, .inr (7, [.ref a_this_codes, .int c_1.2.1, .ref a_this_waiting, .int x_5, .int v_this_open, .int v_this_unitIsDue, .int v_this_digits, .int v_this_firstDigit, .int v_this_number, .int v_this_fault])), (a_this_codes, .inl (cI, 50, .inl c_1.1)), (a_this_waiting, .inl (cI, 50, .inl v_this_waiting))]) izX7 tyX7_ok nmX7 0 rfl rfl 3 (by decide) kX7_22 rfl rfl rfl (Nat.le_of_ble_eq_true rfl) dX7_turn_21 rfl ?_
      refine ii_aload_n 0 dX7_turn_24 rfl ?_
      refine ii_bipush dX7_turn_25 kb58 ?_
      obtain ⟨c_6, hc_6, h⟩ := bnd h
      refine ii_callVv (As := [.int (58 : Int32)]) (ws' := [(a_this, .inr (7, [.ref a_this_codes, .int c_1.2.1, .ref a_this_waiting, .int c_6.2, .int v_this_open, .int v_this_unitIsDue, .int v_this_digits, .int v_this_firstDigit, .int v_this_number, .int v_this_fault])), (a_this_codes, .inl (cI, 50, .inl c_1.1)), (a_this_waiting, .inl (cI, 50, .inl c_6.1))]) (st := []) (c_X7_push l D cI cJ cZ cH a_this a_this_codes a_this_waiting c_1.2.1 v_this_digits v_this_fault v_this_firstDigit v_this_number v_this_open v_this_unitIsDue v_this_waiting x_5 (58 : Int32) hc_6) gzX7_73 rfl rfl rfl eV_X7_push ⟨Nat.le_of_ble_eq_true rfl, Nat.le_of_ble_eq_true rfl⟩ rfl 0 rfl rfl [0, 2] rfl rfl rfl rfl rfl (Nat.le_of_ble_eq_true rfl) (Nat.le_refl _) (Nat.le_refl _) rfl dX7_turn_27 ?_
      refine ii_aload_n 0 dX7_turn_30 rfl ?_
      refine ii_iconst dX7_turn_31 kc1 ?_
      refine ii_put (C := RX7) (T := TX7) (N := 10) (ci := 7) (ty0 := tyX7) (ws' := [(a_this, .inr (7, [.ref a_this_codes, .int c_1.2.1, .ref a_this_waiting, .int c_6.2, .int v_this_open, .int (1 : Int32), .int v_this_digits, .int v_this_firstDigit, .int v_this_number, .int v_this_fault])), (a_this_codes, .inl (cI, 50, .inl c_1.1)), (a_this_waiting, .inl (cI, 50, .inl c_6.1))]) izX7 tyX7_ok nmX7 0 rfl rfl 5 (by decide) kX7_28 rfl rfl rfl (Nat.le_of_ble_eq_true rfl) dX7_turn_32 rfl ?_
      refine ii_goto (tgt := 48) dX7_turn_35 (by decide) ?_
      refine ii_lv [] rfl ?_
      cases h
      exact hjj_3
set_option maxHeartbeats 4000000 in
set_option maxRecDepth 100000 in
theorem c_X7_closeOne (l : Launch) (D : va_G) (cI cJ cZ cH : ClassId) (a_this a_this_codes a_this_waiting : Nat) (v_this_codes : Nat → Int32) (v_this_count : Int32) (v_this_digits : Int32) (v_this_fault : Int32) (v_this_firstDigit : Int32) (v_this_number : Int32) (v_this_open : Int32) (v_this_unitIsDue : Int32) (v_this_waiting : Nat → Int32) (v_this_waits : Int32) (p0 : Int32) {res : (Nat → Int32) × Int32 × Int32 × Int32 × Int32} (h : F_X7_closeOne v_this_codes v_this_count v_this_fault v_this_open v_this_waiting v_this_waits p0 = some res) : CTv l yX7_closeOne wzX7_closeOne { frames := 2, cells := 0, slots := 0, locals := 44 } D [(cI, .int), (cJ, .long), (cZ, .boolean), (cH, .object "TinHouse$House")] [.ref a_this, .int p0] [(a_this, .inr (7, [.ref a_this_codes, .int v_this_count, .ref a_this_waiting, .int v_this_waits, .int v_this_open, .int v_this_unitIsDue, .int v_this_digits, .int v_this_firstDigit, .int v_this_number, .int v_this_fault])), (a_this_codes, .inl (cI, 50, .inl v_this_codes)), (a_this_waiting, .inl (cI, 50, .inl v_this_waiting))] [(a_this, .inr (7, [.ref a_this_codes, .int res.2.1, .ref a_this_waiting, .int res.2.2.2.2, .int res.2.2.2.1, .int v_this_unitIsDue, .int v_this_digits, .int v_this_firstDigit, .int v_this_number, .int res.2.2.1])), (a_this_codes, .inl (cI, 50, .inl res.1)), (a_this_waiting, .inl (cI, 50, .inl v_this_waiting))] := by
  unfold F_X7_closeOne at h
  refine ii_metV (own := RX7) (lv0 := [(0, .ref a_this), (1, .int p0)]) (by decide) rfl rfl rfl (Nat.le_of_ble_eq_true rfl) (fun {p e s m args below meth c A Q} hQ => ?_)
  refine ii_aload_n 0 dX7_closeOne_0 rfl ?_
  refine ii_iconst dX7_closeOne_1 kc1 ?_
  obtain ⟨c_1, hc_1, h⟩ := bnd h
  refine ii_callVv (As := [.int (1 : Int32)]) (ws' := [(a_this, .inr (7, [.ref a_this_codes, .int c_1.2.1, .ref a_this_waiting, .int c_1.2.2, .int v_this_open, .int v_this_unitIsDue, .int v_this_digits, .int v_this_firstDigit, .int v_this_number, .int v_this_fault])), (a_this_codes, .inl (cI, 50, .inl c_1.1)), (a_this_waiting, .inl (cI, 50, .inl v_this_waiting))]) (st := []) (c_X7_release l D cI cJ cZ cH a_this a_this_codes a_this_waiting v_this_codes v_this_count v_this_digits v_this_fault v_this_firstDigit v_this_number v_this_open v_this_unitIsDue v_this_waiting v_this_waits (1 : Int32) hc_1) gzX7_85 rfl rfl rfl eV_X7_release ⟨Nat.le_of_ble_eq_true rfl, Nat.le_of_ble_eq_true rfl⟩ rfl 0 rfl rfl [0, 1, 2] rfl rfl rfl rfl rfl (Nat.le_of_ble_eq_true rfl) (Nat.le_refl _) (Nat.le_refl _) rfl dX7_closeOne_2 ?_
  refine ii_aload_n 0 dX7_closeOne_5 rfl ?_
  obtain ⟨c_2, hc_2, h⟩ := bnd h
  refine ii_callVi (As := []) (ws' := [(a_this, .inr (7, [.ref a_this_codes, .int c_1.2.1, .ref a_this_waiting, .int c_1.2.2, .int v_this_open, .int v_this_unitIsDue, .int v_this_digits, .int v_this_firstDigit, .int v_this_number, .int v_this_fault])), (a_this_codes, .inl (cI, 50, .inl c_1.1)), (a_this_waiting, .inl (cI, 50, .inl v_this_waiting))]) (st := []) (c_X7_top l D cI cJ cZ cH a_this a_this_codes a_this_waiting c_1.2.1 v_this_digits v_this_fault v_this_firstDigit v_this_number v_this_open v_this_unitIsDue v_this_waiting c_1.2.2 hc_2) gzX7_91 rfl rfl rfl eV_X7_top ⟨Nat.le_of_ble_eq_true rfl, Nat.le_of_ble_eq_true rfl⟩ rfl 0 rfl rfl [0, 2] rfl rfl rfl rfl rfl (Nat.le_of_ble_eq_true rfl) (Nat.le_refl _) (Nat.le_refl _) rfl dX7_closeOne_6 ?_
  refine ii_bipush dX7_closeOne_9 kb40 ?_
  refine ii_jn h (fun j_3 => [(a_this, .inr (7, [.ref a_this_codes, .int c_1.2.1, .ref a_this_waiting, .int j_3.2.2, .int j_3.2.1, .int v_this_unitIsDue, .int v_this_digits, .int v_this_firstDigit, .int v_this_number, .int j_3.1])), (a_this_codes, .inl (cI, 50, .inl c_1.1)), (a_this_waiting, .inl (cI, 50, .inl v_this_waiting))]) (fun j_3 => []) 47 (fun j_3 => []) (fun j_3 h => ?_) (fun j_3 h hjj_3 => ?_)
  · skip
    cases h
    exact hQ _ _ dX7_closeOne_47
  · skip
    refine ii_icmp_ne (tgt := 37) h dX7_closeOne_11 (by decide) (fun h => ?_) (fun h => ?_)
    · skip
      refine ii_aload_n 0 dX7_closeOne_37 rfl ?_
      refine ii_bipush dX7_closeOne_38 kb10 ?_
      refine ii_iload_n 1 dX7_closeOne_40 rfl ?_
      refine ii_imul dX7_closeOne_41 ?_
      refine ii_iconst dX7_closeOne_42 kc1 ?_
      refine ii_iadd dX7_closeOne_43 ?_
      refine ii_topI h (fun x_4 h => ?_)
      refine ii_put (C := RX7) (T := TX7) (N := 10) (ci := 7) (ty0 := tyX7) (ws' := [(a_this, .inr (7, [.ref a_this_codes, .int c_1.2.1, .ref a_this_waiting, .int c_1.2.2, .int v_this_open, .int v_this_unitIsDue, .int v_this_digits, .int v_this_firstDigit, .int v_this_number, .int x_4])), (a_this_codes, .inl (cI, 50, .inl c_1.1)), (a_this_waiting, .inl (cI, 50, .inl v_this_waiting))]) izX7 tyX7_ok nmX7 0 rfl rfl 9 (by decide) kX7_35 rfl rfl rfl (Nat.le_of_ble_eq_true rfl) dX7_closeOne_44 rfl ?_
      refine ii_lv [] rfl ?_
      cases h
      exact hjj_3
    · skip
      refine ii_aload_n 0 dX7_closeOne_14 rfl ?_
      refine ii_dup dX7_closeOne_15 rfl ?_
      refine ii_get (C := RX7) (T := TX7) (N := 10) (ci := 7) izX7 0 rfl rfl 3 (by decide) kX7_22 rfl dX7_closeOne_16 ?_
      refine ii_iconst dX7_closeOne_19 kc1 ?_
      refine ii_isub dX7_closeOne_20 ?_
      refine ii_topI h (fun x_5 h => ?_)
      refine ii_put (C := RX7) (T := TX7) (N := 10) (ci := 7) (ty0 := tyX7) (ws' := [(a_this, .inr (7, [.ref a_this_codes, .int c_1.2.1, .ref a_this_waiting, .int x_5, .int v_this_open, .int v_this_unitIsDue, .int v_this_digits, .int v_this_firstDigit, .int v_this_number, .int v_this_fault])), (a_this_codes, .inl (cI, 50, .inl c_1.1)), (a_this_waiting, .inl (cI, 50, .inl v_this_waiting))]) izX7 tyX7_ok nmX7 0 rfl rfl 3 (by decide) kX7_22 rfl rfl rfl (Nat.le_of_ble_eq_true rfl) dX7_closeOne_21 rfl ?_
      refine ii_aload_n 0 dX7_closeOne_24 rfl ?_
      refine ii_dup dX7_closeOne_25 rfl ?_
      refine ii_get (C := RX7) (T := TX7) (N := 10) (ci := 7) izX7 0 rfl rfl 4 (by decide) kX7_25 rfl dX7_closeOne_26 ?_
      refine ii_iconst dX7_closeOne_29 kc1 ?_
      refine ii_isub dX7_closeOne_30 ?_
      refine ii_topI h (fun x_6 h => ?_)
      refine ii_put (C := RX7) (T := TX7) (N := 10) (ci := 7) (ty0 := tyX7) (ws' := [(a_this, .inr (7, [.ref a_this_codes, .int c_1.2.1, .ref a_this_waiting, .int x_5, .int x_6, .int v_this_unitIsDue, .int v_this_digits, .int v_this_firstDigit, .int v_this_number, .int v_this_fault])), (a_this_codes, .inl (cI, 50, .inl c_1.1)), (a_this_waiting, .inl (cI, 50, .inl v_this_waiting))]) izX7 tyX7_ok nmX7 0 rfl rfl 4 (by decide) kX7_25 rfl rfl rfl (Nat.le_of_ble_eq_true rfl) dX7_closeOne_31 rfl ?_
      refine ii_goto (tgt := 47) dX7_closeOne_34 (by decide) ?_
      refine ii_lv [] rfl ?_
      cases h
      exact hjj_3
set_option maxHeartbeats 4000000 in
set_option maxRecDepth 100000 in
theorem c_X7_takeJoint (l : Launch) (D : va_G) (cI cJ cZ cH : ClassId) (a_this a_this_codes a_this_waiting : Nat) (v_this_codes : Nat → Int32) (v_this_count : Int32) (v_this_digits : Int32) (v_this_fault : Int32) (v_this_firstDigit : Int32) (v_this_number : Int32) (v_this_open : Int32) (v_this_unitIsDue : Int32) (v_this_waiting : Nat → Int32) (v_this_waits : Int32) (p0 : Int32) (p1 : Int32) {res : (Nat → Int32) × Int32 × Int32 × Int32 × Int32 × (Nat → Int32) × Int32} (h : F_X7_takeJoint v_this_codes v_this_count v_this_fault v_this_open v_this_unitIsDue v_this_waiting v_this_waits p0 p1 = some res) : CTv l yX7_takeJoint wzX7_takeJoint { frames := 3, cells := 0, slots := 0, locals := 67 } D [(cI, .int), (cJ, .long), (cZ, .boolean), (cH, .object "TinHouse$House")] [.ref a_this, .int p0, .int p1] [(a_this, .inr (7, [.ref a_this_codes, .int v_this_count, .ref a_this_waiting, .int v_this_waits, .int v_this_open, .int v_this_unitIsDue, .int v_this_digits, .int v_this_firstDigit, .int v_this_number, .int v_this_fault])), (a_this_codes, .inl (cI, 50, .inl v_this_codes)), (a_this_waiting, .inl (cI, 50, .inl v_this_waiting))] [(a_this, .inr (7, [.ref a_this_codes, .int res.2.1, .ref a_this_waiting, .int res.2.2.2.2.2.2, .int res.2.2.2.1, .int res.2.2.2.2.1, .int v_this_digits, .int v_this_firstDigit, .int v_this_number, .int res.2.2.1])), (a_this_codes, .inl (cI, 50, .inl res.1)), (a_this_waiting, .inl (cI, 50, .inl res.2.2.2.2.2.1))] := by
  unfold F_X7_takeJoint at h
  refine ii_metV (own := RX7) (lv0 := [(0, .ref a_this), (1, .int p0), (2, .int p1)]) (by decide) rfl rfl rfl (Nat.le_of_ble_eq_true rfl) (fun {p e s m args below meth c A Q} hQ => ?_)
  refine ii_iload_n 2 dX7_takeJoint_0 rfl ?_
  refine ii_bipush dX7_takeJoint_1 kb41 ?_
  refine ii_jn h (fun j_1 => [(a_this, .inr (7, [.ref a_this_codes, .int j_1.2.1, .ref a_this_waiting, .int j_1.2.2.2.2.2.2, .int j_1.2.2.2.1, .int j_1.2.2.2.2.1, .int v_this_digits, .int v_this_firstDigit, .int v_this_number, .int j_1.2.2.1])), (a_this_codes, .inl (cI, 50, .inl j_1.1)), (a_this_waiting, .inl (cI, 50, .inl j_1.2.2.2.2.2.1))]) (fun j_1 => []) 58 (fun j_1 => []) (fun j_1 h => ?_) (fun j_1 h hjj_1 => ?_)
  · skip
    cases h
    exact hQ _ _ dX7_takeJoint_58
  · skip
    refine ii_icmp_ne (tgt := 14) h dX7_takeJoint_3 (by decide) (fun h => ?_) (fun h => ?_)
    · skip
      refine ii_iload_n 2 dX7_takeJoint_14 rfl ?_
      refine ii_bipush dX7_takeJoint_15 kb58 ?_
      refine ii_icmp_ne (tgt := 28) h dX7_takeJoint_17 (by decide) (fun h => ?_) (fun h => ?_)
      · skip
        refine ii_iload_n 2 dX7_takeJoint_28 rfl ?_
        refine ii_bipush dX7_takeJoint_29 kb63 ?_
        refine ii_icmp_ne (tgt := 52) h dX7_takeJoint_31 (by decide) (fun h => ?_) (fun h => ?_)
        · skip
          refine ii_aload_n 0 dX7_takeJoint_52 rfl ?_
          refine ii_iload_n 1 dX7_takeJoint_53 rfl ?_
          refine ii_iload_n 2 dX7_takeJoint_54 rfl ?_
          obtain ⟨c_2, hc_2, h⟩ := bnd h
          refine ii_callVv (As := [.int p0, .int p1]) (ws' := [(a_this, .inr (7, [.ref a_this_codes, .int c_2.2.1, .ref a_this_waiting, .int c_2.2.2.2.2.2, .int v_this_open, .int c_2.2.2.2.1, .int v_this_digits, .int v_this_firstDigit, .int v_this_number, .int c_2.2.2.1])), (a_this_codes, .inl (cI, 50, .inl c_2.1)), (a_this_waiting, .inl (cI, 50, .inl c_2.2.2.2.2.1))]) (st := []) (c_X7_join l D cI cJ cZ cH a_this a_this_codes a_this_waiting v_this_codes v_this_count v_this_digits v_this_fault v_this_firstDigit v_this_number v_this_open v_this_unitIsDue v_this_waiting v_this_waits p0 p1 hc_2) gzX7_88 rfl rfl rfl eV_X7_join ⟨Nat.le_of_ble_eq_true rfl, Nat.le_of_ble_eq_true rfl⟩ rfl 0 rfl rfl [0, 1, 2] rfl rfl rfl rfl rfl (Nat.le_of_ble_eq_true rfl) (Nat.le_refl _) (Nat.le_refl _) rfl dX7_takeJoint_55 ?_
          refine ii_lv [] rfl ?_
          cases h
          exact hjj_1
        · skip
          refine ii_aload_n 0 dX7_takeJoint_34 rfl ?_
          refine ii_iconst dX7_takeJoint_35 kc2 ?_
          obtain ⟨c_3, hc_3, h⟩ := bnd h
          refine ii_callVv (As := [.int (2 : Int32)]) (ws' := [(a_this, .inr (7, [.ref a_this_codes, .int c_3.2.1, .ref a_this_waiting, .int c_3.2.2, .int v_this_open, .int v_this_unitIsDue, .int v_this_digits, .int v_this_firstDigit, .int v_this_number, .int v_this_fault])), (a_this_codes, .inl (cI, 50, .inl c_3.1)), (a_this_waiting, .inl (cI, 50, .inl v_this_waiting))]) (st := []) (c_X7_release l D cI cJ cZ cH a_this a_this_codes a_this_waiting v_this_codes v_this_count v_this_digits v_this_fault v_this_firstDigit v_this_number v_this_open v_this_unitIsDue v_this_waiting v_this_waits (2 : Int32) hc_3) gzX7_85 rfl rfl rfl eV_X7_release ⟨Nat.le_of_ble_eq_true rfl, Nat.le_of_ble_eq_true rfl⟩ rfl 0 rfl rfl [0, 1, 2] rfl rfl rfl rfl rfl (Nat.le_of_ble_eq_true rfl) (Nat.le_refl _) (Nat.le_refl _) rfl dX7_takeJoint_36 ?_
          refine ii_aload_n 0 dX7_takeJoint_39 rfl ?_
          refine ii_iload_n 2 dX7_takeJoint_40 rfl ?_
          obtain ⟨c_4, hc_4, h⟩ := bnd h
          refine ii_callVv (As := [.int p1]) (ws' := [(a_this, .inr (7, [.ref a_this_codes, .int c_3.2.1, .ref a_this_waiting, .int c_4.2, .int v_this_open, .int v_this_unitIsDue, .int v_this_digits, .int v_this_firstDigit, .int v_this_number, .int v_this_fault])), (a_this_codes, .inl (cI, 50, .inl c_3.1)), (a_this_waiting, .inl (cI, 50, .inl c_4.1))]) (st := []) (c_X7_push l D cI cJ cZ cH a_this a_this_codes a_this_waiting c_3.2.1 v_this_digits v_this_fault v_this_firstDigit v_this_number v_this_open v_this_unitIsDue v_this_waiting c_3.2.2 p1 hc_4) gzX7_73 rfl rfl rfl eV_X7_push ⟨Nat.le_of_ble_eq_true rfl, Nat.le_of_ble_eq_true rfl⟩ rfl 0 rfl rfl [0, 2] rfl rfl rfl rfl rfl (Nat.le_of_ble_eq_true rfl) (Nat.le_refl _) (Nat.le_refl _) rfl dX7_takeJoint_41 ?_
          refine ii_aload_n 0 dX7_takeJoint_44 rfl ?_
          refine ii_iconst dX7_takeJoint_45 kc1 ?_
          refine ii_put (C := RX7) (T := TX7) (N := 10) (ci := 7) (ty0 := tyX7) (ws' := [(a_this, .inr (7, [.ref a_this_codes, .int c_3.2.1, .ref a_this_waiting, .int c_4.2, .int v_this_open, .int (1 : Int32), .int v_this_digits, .int v_this_firstDigit, .int v_this_number, .int v_this_fault])), (a_this_codes, .inl (cI, 50, .inl c_3.1)), (a_this_waiting, .inl (cI, 50, .inl c_4.1))]) izX7 tyX7_ok nmX7 0 rfl rfl 5 (by decide) kX7_28 rfl rfl rfl (Nat.le_of_ble_eq_true rfl) dX7_takeJoint_46 rfl ?_
          refine ii_goto (tgt := 58) dX7_takeJoint_49 (by decide) ?_
          refine ii_lv [] rfl ?_
          cases h
          exact hjj_1
      · skip
        refine ii_aload_n 0 dX7_takeJoint_20 rfl ?_
        refine ii_iload_n 1 dX7_takeJoint_21 rfl ?_
        obtain ⟨c_5, hc_5, h⟩ := bnd h
        refine ii_callVv (As := [.int p0]) (ws' := [(a_this, .inr (7, [.ref a_this_codes, .int c_5.2.1, .ref a_this_waiting, .int c_5.2.2.2.2.2, .int v_this_open, .int c_5.2.2.2.1, .int v_this_digits, .int v_this_firstDigit, .int v_this_number, .int c_5.2.2.1])), (a_this_codes, .inl (cI, 50, .inl c_5.1)), (a_this_waiting, .inl (cI, 50, .inl c_5.2.2.2.2.1))]) (st := []) (c_X7_turn l D cI cJ cZ cH a_this a_this_codes a_this_waiting v_this_codes v_this_count v_this_digits v_this_fault v_this_firstDigit v_this_number v_this_open v_this_unitIsDue v_this_waiting v_this_waits p0 hc_5) gzX7_82 rfl rfl rfl eV_X7_turn ⟨Nat.le_of_ble_eq_true rfl, Nat.le_of_ble_eq_true rfl⟩ rfl 0 rfl rfl [0, 1, 2] rfl rfl rfl rfl rfl (Nat.le_of_ble_eq_true rfl) (Nat.le_refl _) (Nat.le_refl _) rfl dX7_takeJoint_22 ?_
        refine ii_goto (tgt := 58) dX7_takeJoint_25 (by decide) ?_
        refine ii_lv [] rfl ?_
        cases h
        exact hjj_1
    · skip
      refine ii_aload_n 0 dX7_takeJoint_6 rfl ?_
      refine ii_iload_n 1 dX7_takeJoint_7 rfl ?_
      obtain ⟨c_6, hc_6, h⟩ := bnd h
      refine ii_callVv (As := [.int p0]) (ws' := [(a_this, .inr (7, [.ref a_this_codes, .int c_6.2.1, .ref a_this_waiting, .int c_6.2.2.2.2, .int c_6.2.2.2.1, .int v_this_unitIsDue, .int v_this_digits, .int v_this_firstDigit, .int v_this_number, .int c_6.2.2.1])), (a_this_codes, .inl (cI, 50, .inl c_6.1)), (a_this_waiting, .inl (cI, 50, .inl v_this_waiting))]) (st := []) (c_X7_closeOne l D cI cJ cZ cH a_this a_this_codes a_this_waiting v_this_codes v_this_count v_this_digits v_this_fault v_this_firstDigit v_this_number v_this_open v_this_unitIsDue v_this_waiting v_this_waits p0 hc_6) gzX7_79 rfl rfl rfl eV_X7_closeOne ⟨Nat.le_of_ble_eq_true rfl, Nat.le_of_ble_eq_true rfl⟩ rfl 0 rfl rfl [0, 1, 2] rfl rfl rfl rfl rfl (Nat.le_of_ble_eq_true rfl) (Nat.le_refl _) (Nat.le_refl _) rfl dX7_takeJoint_8 ?_
      refine ii_goto (tgt := 58) dX7_takeJoint_11 (by decide) ?_
      refine ii_lv [] rfl ?_
      cases h
      exact hjj_1
set_option maxHeartbeats 4000000 in
set_option maxRecDepth 100000 in
theorem c_X7_openOne (l : Launch) (D : va_G) (cI cJ cZ cH : ClassId) (a_this a_this_codes a_this_waiting : Nat) (v_this_count : Int32) (v_this_digits : Int32) (v_this_fault : Int32) (v_this_firstDigit : Int32) (v_this_number : Int32) (v_this_open : Int32) (v_this_unitIsDue : Int32) (v_this_waiting : Nat → Int32) (v_this_waits : Int32) (p0 : Int32) {res : Int32 × Int32 × (Nat → Int32) × Int32} (h : F_X7_openOne v_this_fault v_this_open v_this_waiting v_this_waits p0 = some res) : CTv l yX7_openOne wzX7_openOne { frames := 1, cells := 0, slots := 0, locals := 21 } D [(cI, .int), (cJ, .long), (cZ, .boolean), (cH, .object "TinHouse$House")] [.ref a_this, .int p0] [(a_this, .inr (7, [.ref a_this_codes, .int v_this_count, .ref a_this_waiting, .int v_this_waits, .int v_this_open, .int v_this_unitIsDue, .int v_this_digits, .int v_this_firstDigit, .int v_this_number, .int v_this_fault])), (a_this_waiting, .inl (cI, 50, .inl v_this_waiting))] [(a_this, .inr (7, [.ref a_this_codes, .int v_this_count, .ref a_this_waiting, .int res.2.2.2, .int res.2.1, .int v_this_unitIsDue, .int v_this_digits, .int v_this_firstDigit, .int v_this_number, .int res.1])), (a_this_waiting, .inl (cI, 50, .inl res.2.2.1))] := by
  unfold F_X7_openOne at h
  refine ii_metV (own := RX7) (lv0 := [(0, .ref a_this), (1, .int p0)]) (by decide) rfl rfl rfl (Nat.le_of_ble_eq_true rfl) (fun {p e s m args below meth c A Q} hQ => ?_)
  refine ii_aload_n 0 dX7_openOne_0 rfl ?_
  refine ii_get (C := RX7) (T := TX7) (N := 10) (ci := 7) izX7 0 rfl rfl 4 (by decide) kX7_25 rfl dX7_openOne_1 ?_
  refine ii_bipush dX7_openOne_4 kb8 ?_
  refine ii_jn h (fun j_1 => [(a_this, .inr (7, [.ref a_this_codes, .int v_this_count, .ref a_this_waiting, .int j_1.2.2.2, .int j_1.2.1, .int v_this_unitIsDue, .int v_this_digits, .int v_this_firstDigit, .int v_this_number, .int j_1.1])), (a_this_waiting, .inl (cI, 50, .inl j_1.2.2.1))]) (fun j_1 => []) 38 (fun j_1 => []) (fun j_1 h => ?_) (fun j_1 h hjj_1 => ?_)
  · skip
    cases h
    exact hQ _ _ dX7_openOne_38
  · skip
    refine ii_icmp_ne (tgt := 22) h dX7_openOne_6 (by decide) (fun h => ?_) (fun h => ?_)
    · skip
      refine ii_aload_n 0 dX7_openOne_22 rfl ?_
      refine ii_dup dX7_openOne_23 rfl ?_
      refine ii_get (C := RX7) (T := TX7) (N := 10) (ci := 7) izX7 0 rfl rfl 4 (by decide) kX7_25 rfl dX7_openOne_24 ?_
      refine ii_iconst dX7_openOne_27 kc1 ?_
      refine ii_iadd dX7_openOne_28 ?_
      refine ii_topI h (fun x_2 h => ?_)
      refine ii_put (C := RX7) (T := TX7) (N := 10) (ci := 7) (ty0 := tyX7) (ws' := [(a_this, .inr (7, [.ref a_this_codes, .int v_this_count, .ref a_this_waiting, .int v_this_waits, .int x_2, .int v_this_unitIsDue, .int v_this_digits, .int v_this_firstDigit, .int v_this_number, .int v_this_fault])), (a_this_waiting, .inl (cI, 50, .inl v_this_waiting))]) izX7 tyX7_ok nmX7 0 rfl rfl 4 (by decide) kX7_25 rfl rfl rfl (Nat.le_of_ble_eq_true rfl) dX7_openOne_29 rfl ?_
      refine ii_aload_n 0 dX7_openOne_32 rfl ?_
      refine ii_bipush dX7_openOne_33 kb40 ?_
      obtain ⟨c_3, hc_3, h⟩ := bnd h
      refine ii_callVv (As := [.int (40 : Int32)]) (ws' := [(a_this, .inr (7, [.ref a_this_codes, .int v_this_count, .ref a_this_waiting, .int c_3.2, .int x_2, .int v_this_unitIsDue, .int v_this_digits, .int v_this_firstDigit, .int v_this_number, .int v_this_fault])), (a_this_waiting, .inl (cI, 50, .inl c_3.1))]) (st := []) (c_X7_push l D cI cJ cZ cH a_this a_this_codes a_this_waiting v_this_count v_this_digits v_this_fault v_this_firstDigit v_this_number x_2 v_this_unitIsDue v_this_waiting v_this_waits (40 : Int32) hc_3) gzX7_73 rfl rfl rfl eV_X7_push ⟨Nat.le_of_ble_eq_true rfl, Nat.le_of_ble_eq_true rfl⟩ rfl 0 rfl rfl [0, 1] rfl rfl rfl rfl rfl (Nat.le_of_ble_eq_true rfl) (Nat.le_refl _) (Nat.le_refl _) rfl dX7_openOne_35 ?_
      refine ii_lv [] rfl ?_
      cases h
      exact hjj_1
    · skip
      refine ii_aload_n 0 dX7_openOne_9 rfl ?_
      refine ii_bipush dX7_openOne_10 kb10 ?_
      refine ii_iload_n 1 dX7_openOne_12 rfl ?_
      refine ii_imul dX7_openOne_13 ?_
      refine ii_iconst dX7_openOne_14 kc3 ?_
      refine ii_iadd dX7_openOne_15 ?_
      refine ii_topI h (fun x_4 h => ?_)
      refine ii_put (C := RX7) (T := TX7) (N := 10) (ci := 7) (ty0 := tyX7) (ws' := [(a_this, .inr (7, [.ref a_this_codes, .int v_this_count, .ref a_this_waiting, .int v_this_waits, .int v_this_open, .int v_this_unitIsDue, .int v_this_digits, .int v_this_firstDigit, .int v_this_number, .int x_4])), (a_this_waiting, .inl (cI, 50, .inl v_this_waiting))]) izX7 tyX7_ok nmX7 0 rfl rfl 9 (by decide) kX7_35 rfl rfl rfl (Nat.le_of_ble_eq_true rfl) dX7_openOne_16 rfl ?_
      refine ii_goto (tgt := 38) dX7_openOne_19 (by decide) ?_
      refine ii_lv [] rfl ?_
      cases h
      exact hjj_1
set_option maxHeartbeats 4000000 in
set_option maxRecDepth 100000 in
theorem c_X7_takeUnit (l : Launch) (D : va_G) (cI cJ cZ cH : ClassId) (a_this a_this_codes a_this_waiting : Nat) (v_this_codes : Nat → Int32) (v_this_count : Int32) (v_this_digits : Int32) (v_this_fault : Int32) (v_this_firstDigit : Int32) (v_this_number : Int32) (v_this_open : Int32) (v_this_unitIsDue : Int32) (v_this_waiting : Nat → Int32) (v_this_waits : Int32) (p0 : Int32) (p1 : Int32) {res : (Nat → Int32) × Int32 × Int32 × Int32 × Int32 × (Nat → Int32) × Int32} (h : F_X7_takeUnit v_this_codes v_this_count v_this_fault v_this_open v_this_unitIsDue v_this_waiting v_this_waits p0 p1 = some res) : CTv l yX7_takeUnit wzX7_takeUnit { frames := 2, cells := 0, slots := 0, locals := 42 } D [(cI, .int), (cJ, .long), (cZ, .boolean), (cH, .object "TinHouse$House")] [.ref a_this, .int p0, .int p1] [(a_this, .inr (7, [.ref a_this_codes, .int v_this_count, .ref a_this_waiting, .int v_this_waits, .int v_this_open, .int v_this_unitIsDue, .int v_this_digits, .int v_this_firstDigit, .int v_this_number, .int v_this_fault])), (a_this_codes, .inl (cI, 50, .inl v_this_codes)), (a_this_waiting, .inl (cI, 50, .inl v_this_waiting))] [(a_this, .inr (7, [.ref a_this_codes, .int res.2.1, .ref a_this_waiting, .int res.2.2.2.2.2.2, .int res.2.2.2.1, .int res.2.2.2.2.1, .int v_this_digits, .int v_this_firstDigit, .int v_this_number, .int res.2.2.1])), (a_this_codes, .inl (cI, 50, .inl res.1)), (a_this_waiting, .inl (cI, 50, .inl res.2.2.2.2.2.1))] := by
  unfold F_X7_takeUnit at h
  refine ii_metV (own := RX7) (lv0 := [(0, .ref a_this), (1, .int p0), (2, .int p1)]) (by decide) rfl rfl rfl (Nat.le_of_ble_eq_true rfl) (fun {p e s m args below meth c A Q} hQ => ?_)
  refine ii_iload_n 2 dX7_takeUnit_0 rfl ?_
  refine ii_jn h (fun j_1 => [(a_this, .inr (7, [.ref a_this_codes, .int j_1.2.1, .ref a_this_waiting, .int j_1.2.2.2.2.2.2, .int j_1.2.2.2.1, .int j_1.2.2.2.2.1, .int v_this_digits, .int v_this_firstDigit, .int v_this_number, .int j_1.2.2.1])), (a_this_codes, .inl (cI, 50, .inl j_1.1)), (a_this_waiting, .inl (cI, 50, .inl j_1.2.2.2.2.2.1))]) (fun j_1 => []) 125 (fun j_1 => []) (fun j_1 h => ?_) (fun j_1 h hjj_1 => ?_)
  · skip
    cases h
    exact hQ _ _ dX7_takeUnit_125
  · skip
    refine ii_sw h (fun hq33 h => ?_) (fun hq33 h => ?_)
    · skip
      refine ii_lookup (tgt := 90) (off := 89) dX7_takeUnit_1 rfl (by rw [hq33] <;> decide) (by decide) ?_
      refine ii_aload_n 0 dX7_takeUnit_90 rfl ?_
      refine ii_iload_n 2 dX7_takeUnit_91 rfl ?_
      obtain ⟨c_2, hc_2, h⟩ := bnd h
      refine ii_callVv (As := [.int p1]) (ws' := [(a_this, .inr (7, [.ref a_this_codes, .int v_this_count, .ref a_this_waiting, .int c_2.2, .int v_this_open, .int v_this_unitIsDue, .int v_this_digits, .int v_this_firstDigit, .int v_this_number, .int v_this_fault])), (a_this_codes, .inl (cI, 50, .inl v_this_codes)), (a_this_waiting, .inl (cI, 50, .inl c_2.1))]) (st := []) (c_X7_push l D cI cJ cZ cH a_this a_this_codes a_this_waiting v_this_count v_this_digits v_this_fault v_this_firstDigit v_this_number v_this_open v_this_unitIsDue v_this_waiting v_this_waits p1 hc_2) gzX7_73 rfl rfl rfl eV_X7_push ⟨Nat.le_of_ble_eq_true rfl, Nat.le_of_ble_eq_true rfl⟩ rfl 0 rfl rfl [0, 2] rfl rfl rfl rfl rfl (Nat.le_of_ble_eq_true rfl) (Nat.le_refl _) (Nat.le_refl _) rfl dX7_takeUnit_92 ?_
      refine ii_goto (tgt := 125) dX7_takeUnit_95 (by decide) ?_
      refine ii_lv [] rfl ?_
      cases h
      exact hjj_1
    refine ii_sw h (fun hq40 h => ?_) (fun hq40 h => ?_)
    · skip
      refine ii_lookup (tgt := 107) (off := 106) dX7_takeUnit_1 rfl (by rw [hq40] <;> decide) (by decide) ?_
      refine ii_aload_n 0 dX7_takeUnit_107 rfl ?_
      refine ii_iload_n 1 dX7_takeUnit_108 rfl ?_
      obtain ⟨c_3, hc_3, h⟩ := bnd h
      refine ii_callVv (As := [.int p0]) (ws' := [(a_this, .inr (7, [.ref a_this_codes, .int v_this_count, .ref a_this_waiting, .int c_3.2.2.2, .int c_3.2.1, .int v_this_unitIsDue, .int v_this_digits, .int v_this_firstDigit, .int v_this_number, .int c_3.1])), (a_this_codes, .inl (cI, 50, .inl v_this_codes)), (a_this_waiting, .inl (cI, 50, .inl c_3.2.2.1))]) (st := []) (c_X7_openOne l D cI cJ cZ cH a_this a_this_codes a_this_waiting v_this_count v_this_digits v_this_fault v_this_firstDigit v_this_number v_this_open v_this_unitIsDue v_this_waiting v_this_waits p0 hc_3) gzX7_76 rfl rfl rfl eV_X7_openOne ⟨Nat.le_of_ble_eq_true rfl, Nat.le_of_ble_eq_true rfl⟩ rfl 0 rfl rfl [0, 2] rfl rfl rfl rfl rfl (Nat.le_of_ble_eq_true rfl) (Nat.le_refl _) (Nat.le_refl _) rfl dX7_takeUnit_109 ?_
      refine ii_goto (tgt := 125) dX7_takeUnit_112 (by decide) ?_
      refine ii_lv [] rfl ?_
      cases h
      exact hjj_1
    refine ii_sw h (fun hq45 h => ?_) (fun hq45 h => ?_)
    · skip
      refine ii_lookup (tgt := 98) (off := 97) dX7_takeUnit_1 rfl (by rw [hq45] <;> decide) (by decide) ?_
      refine ii_aload_n 0 dX7_takeUnit_98 rfl ?_
      refine ii_bipush dX7_takeUnit_99 kb126 ?_
      obtain ⟨c_4, hc_4, h⟩ := bnd h
      refine ii_callVv (As := [.int (126 : Int32)]) (ws' := [(a_this, .inr (7, [.ref a_this_codes, .int v_this_count, .ref a_this_waiting, .int c_4.2, .int v_this_open, .int v_this_unitIsDue, .int v_this_digits, .int v_this_firstDigit, .int v_this_number, .int v_this_fault])), (a_this_codes, .inl (cI, 50, .inl v_this_codes)), (a_this_waiting, .inl (cI, 50, .inl c_4.1))]) (st := []) (c_X7_push l D cI cJ cZ cH a_this a_this_codes a_this_waiting v_this_count v_this_digits v_this_fault v_this_firstDigit v_this_number v_this_open v_this_unitIsDue v_this_waiting v_this_waits (126 : Int32) hc_4) gzX7_73 rfl rfl rfl eV_X7_push ⟨Nat.le_of_ble_eq_true rfl, Nat.le_of_ble_eq_true rfl⟩ rfl 0 rfl rfl [0, 2] rfl rfl rfl rfl rfl (Nat.le_of_ble_eq_true rfl) (Nat.le_refl _) (Nat.le_refl _) rfl dX7_takeUnit_101 ?_
      refine ii_goto (tgt := 125) dX7_takeUnit_104 (by decide) ?_
      refine ii_lv [] rfl ?_
      cases h
      exact hjj_1
    refine ii_sw h (fun hq103 h => ?_) (fun hq103 h => ?_)
    · skip
      refine ii_lookup (tgt := 76) (off := 75) dX7_takeUnit_1 rfl (by rw [hq103] <;> decide) (by decide) ?_
      refine ii_aload_n 0 dX7_takeUnit_76 rfl ?_
      refine ii_iload_n 2 dX7_takeUnit_77 rfl ?_
      refine ii_ineg dX7_takeUnit_78 ?_
      obtain ⟨c_5, hc_5, h⟩ := bnd h
      refine ii_callVv (As := [.int (-p1)]) (ws' := [(a_this, .inr (7, [.ref a_this_codes, .int c_5.2, .ref a_this_waiting, .int v_this_waits, .int v_this_open, .int v_this_unitIsDue, .int v_this_digits, .int v_this_firstDigit, .int v_this_number, .int v_this_fault])), (a_this_codes, .inl (cI, 50, .inl c_5.1)), (a_this_waiting, .inl (cI, 50, .inl v_this_waiting))]) (st := []) (c_X7_put l D cI cJ cZ cH a_this a_this_codes a_this_waiting v_this_codes v_this_count v_this_digits v_this_fault v_this_firstDigit v_this_number v_this_open v_this_unitIsDue v_this_waits (-p1) hc_5) gzX7_70 rfl rfl rfl eV_X7_put ⟨Nat.le_of_ble_eq_true rfl, Nat.le_of_ble_eq_true rfl⟩ rfl 0 rfl rfl [0, 1] rfl rfl rfl rfl rfl (Nat.le_of_ble_eq_true rfl) (Nat.le_refl _) (Nat.le_refl _) rfl dX7_takeUnit_79 ?_
      refine ii_aload_n 0 dX7_takeUnit_82 rfl ?_
      refine ii_iconst dX7_takeUnit_83 kc0 ?_
      refine ii_put (C := RX7) (T := TX7) (N := 10) (ci := 7) (ty0 := tyX7) (ws' := [(a_this, .inr (7, [.ref a_this_codes, .int c_5.2, .ref a_this_waiting, .int v_this_waits, .int v_this_open, .int (0 : Int32), .int v_this_digits, .int v_this_firstDigit, .int v_this_number, .int v_this_fault])), (a_this_codes, .inl (cI, 50, .inl c_5.1)), (a_this_waiting, .inl (cI, 50, .inl v_this_waiting))]) izX7 tyX7_ok nmX7 0 rfl rfl 5 (by decide) kX7_28 rfl rfl rfl (Nat.le_of_ble_eq_true rfl) dX7_takeUnit_84 rfl ?_
      refine ii_goto (tgt := 125) dX7_takeUnit_87 (by decide) ?_
      refine ii_lv [] rfl ?_
      cases h
      exact hjj_1
    refine ii_sw h (fun hq107 h => ?_) (fun hq107 h => ?_)
    · skip
      refine ii_lookup (tgt := 76) (off := 75) dX7_takeUnit_1 rfl (by rw [hq107] <;> decide) (by decide) ?_
      refine ii_aload_n 0 dX7_takeUnit_76 rfl ?_
      refine ii_iload_n 2 dX7_takeUnit_77 rfl ?_
      refine ii_ineg dX7_takeUnit_78 ?_
      obtain ⟨c_6, hc_6, h⟩ := bnd h
      refine ii_callVv (As := [.int (-p1)]) (ws' := [(a_this, .inr (7, [.ref a_this_codes, .int c_6.2, .ref a_this_waiting, .int v_this_waits, .int v_this_open, .int v_this_unitIsDue, .int v_this_digits, .int v_this_firstDigit, .int v_this_number, .int v_this_fault])), (a_this_codes, .inl (cI, 50, .inl c_6.1)), (a_this_waiting, .inl (cI, 50, .inl v_this_waiting))]) (st := []) (c_X7_put l D cI cJ cZ cH a_this a_this_codes a_this_waiting v_this_codes v_this_count v_this_digits v_this_fault v_this_firstDigit v_this_number v_this_open v_this_unitIsDue v_this_waits (-p1) hc_6) gzX7_70 rfl rfl rfl eV_X7_put ⟨Nat.le_of_ble_eq_true rfl, Nat.le_of_ble_eq_true rfl⟩ rfl 0 rfl rfl [0, 1] rfl rfl rfl rfl rfl (Nat.le_of_ble_eq_true rfl) (Nat.le_refl _) (Nat.le_refl _) rfl dX7_takeUnit_79 ?_
      refine ii_aload_n 0 dX7_takeUnit_82 rfl ?_
      refine ii_iconst dX7_takeUnit_83 kc0 ?_
      refine ii_put (C := RX7) (T := TX7) (N := 10) (ci := 7) (ty0 := tyX7) (ws' := [(a_this, .inr (7, [.ref a_this_codes, .int c_6.2, .ref a_this_waiting, .int v_this_waits, .int v_this_open, .int (0 : Int32), .int v_this_digits, .int v_this_firstDigit, .int v_this_number, .int v_this_fault])), (a_this_codes, .inl (cI, 50, .inl c_6.1)), (a_this_waiting, .inl (cI, 50, .inl v_this_waiting))]) izX7 tyX7_ok nmX7 0 rfl rfl 5 (by decide) kX7_28 rfl rfl rfl (Nat.le_of_ble_eq_true rfl) dX7_takeUnit_84 rfl ?_
      refine ii_goto (tgt := 125) dX7_takeUnit_87 (by decide) ?_
      refine ii_lv [] rfl ?_
      cases h
      exact hjj_1
    refine ii_sw h (fun hq115 h => ?_) (fun hq115 h => ?_)
    · skip
      refine ii_lookup (tgt := 76) (off := 75) dX7_takeUnit_1 rfl (by rw [hq115] <;> decide) (by decide) ?_
      refine ii_aload_n 0 dX7_takeUnit_76 rfl ?_
      refine ii_iload_n 2 dX7_takeUnit_77 rfl ?_
      refine ii_ineg dX7_takeUnit_78 ?_
      obtain ⟨c_7, hc_7, h⟩ := bnd h
      refine ii_callVv (As := [.int (-p1)]) (ws' := [(a_this, .inr (7, [.ref a_this_codes, .int c_7.2, .ref a_this_waiting, .int v_this_waits, .int v_this_open, .int v_this_unitIsDue, .int v_this_digits, .int v_this_firstDigit, .int v_this_number, .int v_this_fault])), (a_this_codes, .inl (cI, 50, .inl c_7.1)), (a_this_waiting, .inl (cI, 50, .inl v_this_waiting))]) (st := []) (c_X7_put l D cI cJ cZ cH a_this a_this_codes a_this_waiting v_this_codes v_this_count v_this_digits v_this_fault v_this_firstDigit v_this_number v_this_open v_this_unitIsDue v_this_waits (-p1) hc_7) gzX7_70 rfl rfl rfl eV_X7_put ⟨Nat.le_of_ble_eq_true rfl, Nat.le_of_ble_eq_true rfl⟩ rfl 0 rfl rfl [0, 1] rfl rfl rfl rfl rfl (Nat.le_of_ble_eq_true rfl) (Nat.le_refl _) (Nat.le_refl _) rfl dX7_takeUnit_79 ?_
      refine ii_aload_n 0 dX7_takeUnit_82 rfl ?_
      refine ii_iconst dX7_takeUnit_83 kc0 ?_
      refine ii_put (C := RX7) (T := TX7) (N := 10) (ci := 7) (ty0 := tyX7) (ws' := [(a_this, .inr (7, [.ref a_this_codes, .int c_7.2, .ref a_this_waiting, .int v_this_waits, .int v_this_open, .int (0 : Int32), .int v_this_digits, .int v_this_firstDigit, .int v_this_number, .int v_this_fault])), (a_this_codes, .inl (cI, 50, .inl c_7.1)), (a_this_waiting, .inl (cI, 50, .inl v_this_waiting))]) izX7 tyX7_ok nmX7 0 rfl rfl 5 (by decide) kX7_28 rfl rfl rfl (Nat.le_of_ble_eq_true rfl) dX7_takeUnit_84 rfl ?_
      refine ii_goto (tgt := 125) dX7_takeUnit_87 (by decide) ?_
      refine ii_lv [] rfl ?_
      cases h
      exact hjj_1
    refine ii_sw h (fun hq116 h => ?_) (fun hq116 h => ?_)
    · skip
      refine ii_lookup (tgt := 76) (off := 75) dX7_takeUnit_1 rfl (by rw [hq116] <;> decide) (by decide) ?_
      refine ii_aload_n 0 dX7_takeUnit_76 rfl ?_
      refine ii_iload_n 2 dX7_takeUnit_77 rfl ?_
      refine ii_ineg dX7_takeUnit_78 ?_
      obtain ⟨c_8, hc_8, h⟩ := bnd h
      refine ii_callVv (As := [.int (-p1)]) (ws' := [(a_this, .inr (7, [.ref a_this_codes, .int c_8.2, .ref a_this_waiting, .int v_this_waits, .int v_this_open, .int v_this_unitIsDue, .int v_this_digits, .int v_this_firstDigit, .int v_this_number, .int v_this_fault])), (a_this_codes, .inl (cI, 50, .inl c_8.1)), (a_this_waiting, .inl (cI, 50, .inl v_this_waiting))]) (st := []) (c_X7_put l D cI cJ cZ cH a_this a_this_codes a_this_waiting v_this_codes v_this_count v_this_digits v_this_fault v_this_firstDigit v_this_number v_this_open v_this_unitIsDue v_this_waits (-p1) hc_8) gzX7_70 rfl rfl rfl eV_X7_put ⟨Nat.le_of_ble_eq_true rfl, Nat.le_of_ble_eq_true rfl⟩ rfl 0 rfl rfl [0, 1] rfl rfl rfl rfl rfl (Nat.le_of_ble_eq_true rfl) (Nat.le_refl _) (Nat.le_refl _) rfl dX7_takeUnit_79 ?_
      refine ii_aload_n 0 dX7_takeUnit_82 rfl ?_
      refine ii_iconst dX7_takeUnit_83 kc0 ?_
      refine ii_put (C := RX7) (T := TX7) (N := 10) (ci := 7) (ty0 := tyX7) (ws' := [(a_this, .inr (7, [.ref a_this_codes, .int c_8.2, .ref a_this_waiting, .int v_this_waits, .int v_this_open, .int (0 : Int32), .int v_this_digits, .int v_this_firstDigit, .int v_this_number, .int v_this_fault])), (a_this_codes, .inl (cI, 50, .inl c_8.1)), (a_this_waiting, .inl (cI, 50, .inl v_this_waiting))]) izX7 tyX7_ok nmX7 0 rfl rfl 5 (by decide) kX7_28 rfl rfl rfl (Nat.le_of_ble_eq_true rfl) dX7_takeUnit_84 rfl ?_
      refine ii_goto (tgt := 125) dX7_takeUnit_87 (by decide) ?_
      refine ii_lv [] rfl ?_
      cases h
      exact hjj_1
    refine ii_sw h (fun hq119 h => ?_) (fun hq119 h => ?_)
    · skip
      refine ii_lookup (tgt := 76) (off := 75) dX7_takeUnit_1 rfl (by rw [hq119] <;> decide) (by decide) ?_
      refine ii_aload_n 0 dX7_takeUnit_76 rfl ?_
      refine ii_iload_n 2 dX7_takeUnit_77 rfl ?_
      refine ii_ineg dX7_takeUnit_78 ?_
      obtain ⟨c_9, hc_9, h⟩ := bnd h
      refine ii_callVv (As := [.int (-p1)]) (ws' := [(a_this, .inr (7, [.ref a_this_codes, .int c_9.2, .ref a_this_waiting, .int v_this_waits, .int v_this_open, .int v_this_unitIsDue, .int v_this_digits, .int v_this_firstDigit, .int v_this_number, .int v_this_fault])), (a_this_codes, .inl (cI, 50, .inl c_9.1)), (a_this_waiting, .inl (cI, 50, .inl v_this_waiting))]) (st := []) (c_X7_put l D cI cJ cZ cH a_this a_this_codes a_this_waiting v_this_codes v_this_count v_this_digits v_this_fault v_this_firstDigit v_this_number v_this_open v_this_unitIsDue v_this_waits (-p1) hc_9) gzX7_70 rfl rfl rfl eV_X7_put ⟨Nat.le_of_ble_eq_true rfl, Nat.le_of_ble_eq_true rfl⟩ rfl 0 rfl rfl [0, 1] rfl rfl rfl rfl rfl (Nat.le_of_ble_eq_true rfl) (Nat.le_refl _) (Nat.le_refl _) rfl dX7_takeUnit_79 ?_
      refine ii_aload_n 0 dX7_takeUnit_82 rfl ?_
      refine ii_iconst dX7_takeUnit_83 kc0 ?_
      refine ii_put (C := RX7) (T := TX7) (N := 10) (ci := 7) (ty0 := tyX7) (ws' := [(a_this, .inr (7, [.ref a_this_codes, .int c_9.2, .ref a_this_waiting, .int v_this_waits, .int v_this_open, .int (0 : Int32), .int v_this_digits, .int v_this_firstDigit, .int v_this_number, .int v_this_fault])), (a_this_codes, .inl (cI, 50, .inl c_9.1)), (a_this_waiting, .inl (cI, 50, .inl v_this_waiting))]) izX7 tyX7_ok nmX7 0 rfl rfl 5 (by decide) kX7_28 rfl rfl rfl (Nat.le_of_ble_eq_true rfl) dX7_takeUnit_84 rfl ?_
      refine ii_goto (tgt := 125) dX7_takeUnit_87 (by decide) ?_
      refine ii_lv [] rfl ?_
      cases h
      exact hjj_1
    refine ii_lookup (tgt := 115) (off := 114) dX7_takeUnit_1 rfl (by show Op.lookupswitch.offset [(33, 89), (40, 106), (45, 97), (103, 75), (107, 75), (115, 75), (116, 75), (119, 75)] _ _ = _; rw [lv_osw hq33 (a := 33) (by rfl), lv_osw hq40 (a := 40) (by rfl), lv_osw hq45 (a := 45) (by rfl), lv_osw hq103 (a := 103) (by rfl), lv_osw hq107 (a := 107) (by rfl), lv_osw hq115 (a := 115) (by rfl), lv_osw hq116 (a := 116) (by rfl), lv_osw hq119 (a := 119) (by rfl)] <;> rfl) (by decide) ?_
    refine ii_aload_n 0 dX7_takeUnit_115 rfl ?_
    refine ii_bipush dX7_takeUnit_116 kb10 ?_
    refine ii_iload_n 1 dX7_takeUnit_118 rfl ?_
    refine ii_imul dX7_takeUnit_119 ?_
    refine ii_iconst dX7_takeUnit_120 kc1 ?_
    refine ii_iadd dX7_takeUnit_121 ?_
    refine ii_topI h (fun x_10 h => ?_)
    refine ii_put (C := RX7) (T := TX7) (N := 10) (ci := 7) (ty0 := tyX7) (ws' := [(a_this, .inr (7, [.ref a_this_codes, .int v_this_count, .ref a_this_waiting, .int v_this_waits, .int v_this_open, .int v_this_unitIsDue, .int v_this_digits, .int v_this_firstDigit, .int v_this_number, .int x_10])), (a_this_codes, .inl (cI, 50, .inl v_this_codes)), (a_this_waiting, .inl (cI, 50, .inl v_this_waiting))]) izX7 tyX7_ok nmX7 0 rfl rfl 9 (by decide) kX7_35 rfl rfl rfl (Nat.le_of_ble_eq_true rfl) dX7_takeUnit_122 rfl ?_
    refine ii_lv [] rfl ?_
    cases h
    exact hjj_1
set_option maxHeartbeats 4000000 in
set_option maxRecDepth 100000 in
theorem c_X7_take (l : Launch) (D : va_G) (cI cJ cZ cH : ClassId) (a_this a_this_codes a_this_waiting : Nat) (v_this_codes : Nat → Int32) (v_this_count : Int32) (v_this_digits : Int32) (v_this_fault : Int32) (v_this_firstDigit : Int32) (v_this_number : Int32) (v_this_open : Int32) (v_this_unitIsDue : Int32) (v_this_waiting : Nat → Int32) (v_this_waits : Int32) (p0 : Int32) (p1 : Int32) {res : (Nat → Int32) × Int32 × Int32 × Int32 × Int32 × Int32 × Int32 × Int32 × (Nat → Int32) × Int32} (h : F_X7_take v_this_codes v_this_count v_this_digits v_this_fault v_this_firstDigit v_this_number v_this_open v_this_unitIsDue v_this_waiting v_this_waits p0 p1 = some res) : CTv l yX7_take wzX7_take { frames := 4, cells := 0, slots := 0, locals := 89 } D [(cI, .int), (cJ, .long), (cZ, .boolean), (cH, .object "TinHouse$House")] [.ref a_this, .int p0, .int p1] [(a_this, .inr (7, [.ref a_this_codes, .int v_this_count, .ref a_this_waiting, .int v_this_waits, .int v_this_open, .int v_this_unitIsDue, .int v_this_digits, .int v_this_firstDigit, .int v_this_number, .int v_this_fault])), (a_this_codes, .inl (cI, 50, .inl v_this_codes)), (a_this_waiting, .inl (cI, 50, .inl v_this_waiting))] [(a_this, .inr (7, [.ref a_this_codes, .int res.2.1, .ref a_this_waiting, .int res.2.2.2.2.2.2.2.2.2, .int res.2.2.2.2.2.2.1, .int res.2.2.2.2.2.2.2.1, .int res.2.2.1, .int res.2.2.2.2.1, .int res.2.2.2.2.2.1, .int res.2.2.2.1])), (a_this_codes, .inl (cI, 50, .inl res.1)), (a_this_waiting, .inl (cI, 50, .inl res.2.2.2.2.2.2.2.2.1))] := by
  unfold F_X7_take at h
  refine ii_metV (own := RX7) (lv0 := [(0, .ref a_this), (1, .int p0), (2, .int p1)]) (by decide) rfl rfl rfl (Nat.le_of_ble_eq_true rfl) (fun {p e s m args below meth c A Q} hQ => ?_)
  refine ii_iload_n 2 dX7_take_0 rfl ?_
  refine ii_bipush dX7_take_1 kb48 ?_
  refine ii_jf (r := res) (J_X7_take_1_22 v_this_codes v_this_count v_this_digits v_this_number p1 v_this_fault v_this_firstDigit v_this_open v_this_unitIsDue v_this_waiting v_this_waits p0) (fun v_1 => [(a_this, .inr (7, [.ref a_this_codes, .int v_this_count, .ref a_this_waiting, .int v_this_waits, .int v_this_open, .int v_this_unitIsDue, .int v_this_digits, .int v_this_firstDigit, .int v_this_number, .int v_this_fault])), (a_this_codes, .inl (cI, 50, .inl v_this_codes)), (a_this_waiting, .inl (cI, 50, .inl v_this_waiting))]) (fun v_1 => [(0, .ref a_this), (1, .int p0), (2, .int p1)]) 22 (fun v_1 => []) (fun v_1 h => ?_) (fun hjv_1 => ?_)
  · skip
    refine ii_aload_n 0 dX7_take_22 rfl ?_
    obtain ⟨c_2, hc_2, h⟩ := bnd h
    refine ii_callVv (As := []) (ws' := [(a_this, .inr (7, [.ref a_this_codes, .int c_2.2.1, .ref a_this_waiting, .int v_this_waits, .int v_this_open, .int v_this_unitIsDue, .int c_2.2.2, .int v_this_firstDigit, .int v_this_number, .int v_this_fault])), (a_this_codes, .inl (cI, 50, .inl c_2.1)), (a_this_waiting, .inl (cI, 50, .inl v_this_waiting))]) (st := []) (c_X7_endNumber l D cI cJ cZ cH a_this a_this_codes a_this_waiting v_this_codes v_this_count v_this_digits v_this_fault v_this_firstDigit v_this_number v_this_open v_this_unitIsDue v_this_waits hc_2) gzX7_55 rfl rfl rfl eV_X7_endNumber ⟨Nat.le_of_ble_eq_true rfl, Nat.le_of_ble_eq_true rfl⟩ rfl 0 rfl rfl [0, 1] rfl rfl rfl rfl rfl (Nat.le_of_ble_eq_true rfl) (Nat.le_refl _) (Nat.le_refl _) rfl dX7_take_23 ?_
    refine ii_iload_n 2 dX7_take_26 rfl ?_
    refine ii_bipush dX7_take_27 kb32 ?_
    refine ii_icmp_ne (tgt := 33) h dX7_take_29 (by decide) (fun h => ?_) (fun h => ?_)
    · skip
      refine ii_aload_n 0 dX7_take_33 rfl ?_
      refine ii_get (C := RX7) (T := TX7) (N := 10) (ci := 7) izX7 0 rfl rfl 5 (by decide) kX7_28 rfl dX7_take_34 ?_
      refine ii_jn h (fun j_3 => [(a_this, .inr (7, [.ref a_this_codes, .int j_3.2.1, .ref a_this_waiting, .int j_3.2.2.2.2.2.2, .int j_3.2.2.2.1, .int j_3.2.2.2.2.1, .int c_2.2.2, .int v_this_firstDigit, .int v_this_number, .int j_3.2.2.1])), (a_this_codes, .inl (cI, 50, .inl j_3.1)), (a_this_waiting, .inl (cI, 50, .inl j_3.2.2.2.2.2.1))]) (fun j_3 => []) 55 (fun j_3 => []) (fun j_3 h => ?_) (fun j_3 h hjj_3 => ?_)
      · skip
        cases h
        exact hQ _ _ dX7_take_55
      · skip
        refine ii_if_eq (tgt := 49) h dX7_take_37 (by decide) (fun h => ?_) (fun h => ?_)
        · skip
          refine ii_aload_n 0 dX7_take_49 rfl ?_
          refine ii_iload_n 1 dX7_take_50 rfl ?_
          refine ii_iload_n 2 dX7_take_51 rfl ?_
          obtain ⟨c_4, hc_4, h⟩ := bnd h
          refine ii_callVv (As := [.int p0, .int p1]) (ws' := [(a_this, .inr (7, [.ref a_this_codes, .int c_4.2.1, .ref a_this_waiting, .int c_4.2.2.2.2.2.2, .int c_4.2.2.2.1, .int c_4.2.2.2.2.1, .int c_2.2.2, .int v_this_firstDigit, .int v_this_number, .int c_4.2.2.1])), (a_this_codes, .inl (cI, 50, .inl c_4.1)), (a_this_waiting, .inl (cI, 50, .inl c_4.2.2.2.2.2.1))]) (st := []) (c_X7_takeJoint l D cI cJ cZ cH a_this a_this_codes a_this_waiting c_2.1 c_2.2.1 c_2.2.2 v_this_fault v_this_firstDigit v_this_number v_this_open v_this_unitIsDue v_this_waiting v_this_waits p0 p1 hc_4) gzX7_61 rfl rfl rfl eV_X7_takeJoint ⟨Nat.le_of_ble_eq_true rfl, Nat.le_of_ble_eq_true rfl⟩ rfl 0 rfl rfl [0, 1, 2] rfl rfl rfl rfl rfl (Nat.le_of_ble_eq_true rfl) (Nat.le_refl _) (Nat.le_refl _) rfl dX7_take_52 ?_
          refine ii_lv [] rfl ?_
          cases h
          exact hjj_3
        · skip
          refine ii_aload_n 0 dX7_take_40 rfl ?_
          refine ii_iload_n 1 dX7_take_41 rfl ?_
          refine ii_iload_n 2 dX7_take_42 rfl ?_
          obtain ⟨c_5, hc_5, h⟩ := bnd h
          refine ii_callVv (As := [.int p0, .int p1]) (ws' := [(a_this, .inr (7, [.ref a_this_codes, .int c_5.2.1, .ref a_this_waiting, .int c_5.2.2.2.2.2.2, .int c_5.2.2.2.1, .int c_5.2.2.2.2.1, .int c_2.2.2, .int v_this_firstDigit, .int v_this_number, .int c_5.2.2.1])), (a_this_codes, .inl (cI, 50, .inl c_5.1)), (a_this_waiting, .inl (cI, 50, .inl c_5.2.2.2.2.2.1))]) (st := []) (c_X7_takeUnit l D cI cJ cZ cH a_this a_this_codes a_this_waiting c_2.1 c_2.2.1 c_2.2.2 v_this_fault v_this_firstDigit v_this_number v_this_open v_this_unitIsDue v_this_waiting v_this_waits p0 p1 hc_5) gzX7_58 rfl rfl rfl eV_X7_takeUnit ⟨Nat.le_of_ble_eq_true rfl, Nat.le_of_ble_eq_true rfl⟩ rfl 0 rfl rfl [0, 1, 2] rfl rfl rfl rfl rfl (Nat.le_of_ble_eq_true rfl) (Nat.le_refl _) (Nat.le_refl _) rfl dX7_take_43 ?_
          refine ii_goto (tgt := 55) dX7_take_46 (by decide) ?_
          refine ii_lv [] rfl ?_
          cases h
          exact hjj_3
    · skip
      cases h
      exact hQ _ _ dX7_take_32
  · skip
    refine ii_icmp_lt (tgt := 22) h dX7_take_3 (by decide) (fun h => ?_) (fun h => ?_)
    · skip
      exact hjv_1 () h
    · skip
      refine ii_iload_n 2 dX7_take_6 rfl ?_
      refine ii_bipush dX7_take_7 kb57 ?_
      refine ii_icmp_gt (tgt := 22) h dX7_take_9 (by decide) (fun h => ?_) (fun h => ?_)
      · skip
        exact hjv_1 () h
      · skip
        refine ii_aload_n 0 dX7_take_12 rfl ?_
        refine ii_iload_n 1 dX7_take_13 rfl ?_
        refine ii_iload_n 2 dX7_take_14 rfl ?_
        refine ii_bipush dX7_take_15 kb48 ?_
        refine ii_isub dX7_take_17 ?_
        obtain ⟨c_6, hc_6, h⟩ := bnd h
        refine ii_callVv (As := [.int p0, .int (p1 - (48 : Int32))]) (ws' := [(a_this, .inr (7, [.ref a_this_codes, .int v_this_count, .ref a_this_waiting, .int v_this_waits, .int v_this_open, .int c_6.2.2.2.2, .int c_6.1, .int c_6.2.2.1, .int c_6.2.2.2.1, .int c_6.2.1])), (a_this_codes, .inl (cI, 50, .inl v_this_codes)), (a_this_waiting, .inl (cI, 50, .inl v_this_waiting))]) (st := []) (c_X7_takeDigit l D cI cJ cZ cH a_this a_this_codes a_this_waiting v_this_count v_this_digits v_this_fault v_this_firstDigit v_this_number v_this_open v_this_unitIsDue v_this_waits p0 (p1 - (48 : Int32)) hc_6) gzX7_52 rfl rfl rfl eV_X7_takeDigit ⟨Nat.le_of_ble_eq_true rfl, Nat.le_of_ble_eq_true rfl⟩ rfl 0 rfl rfl [0] rfl rfl rfl rfl rfl (Nat.le_of_ble_eq_true rfl) (Nat.le_refl _) (Nat.le_refl _) rfl dX7_take_18 ?_
        cases h
        exact hQ _ _ dX7_take_21
set_option maxHeartbeats 4000000 in
set_option maxRecDepth 100000 in
theorem c_X7_end (l : Launch) (D : va_G) (cI cJ cZ cH : ClassId) (a_this a_this_codes a_this_waiting : Nat) (v_this_codes : Nat → Int32) (v_this_count : Int32) (v_this_digits : Int32) (v_this_fault : Int32) (v_this_firstDigit : Int32) (v_this_number : Int32) (v_this_open : Int32) (v_this_unitIsDue : Int32) (v_this_waiting : Nat → Int32) (v_this_waits : Int32) (p0 : Int32) {res : (Nat → Int32) × Int32 × Int32 × Int32 × Int32} (h : F_X7_end v_this_codes v_this_count v_this_digits v_this_fault v_this_number v_this_unitIsDue v_this_waiting v_this_waits p0 = some res) : CTv l yX7_end wzX7_end { frames := 2, cells := 0, slots := 0, locals := 44 } D [(cI, .int), (cJ, .long), (cZ, .boolean), (cH, .object "TinHouse$House")] [.ref a_this, .int p0] [(a_this, .inr (7, [.ref a_this_codes, .int v_this_count, .ref a_this_waiting, .int v_this_waits, .int v_this_open, .int v_this_unitIsDue, .int v_this_digits, .int v_this_firstDigit, .int v_this_number, .int v_this_fault])), (a_this_codes, .inl (cI, 50, .inl v_this_codes)), (a_this_waiting, .inl (cI, 50, .inl v_this_waiting))] [(a_this, .inr (7, [.ref a_this_codes, .int res.2.1, .ref a_this_waiting, .int res.2.2.2.2, .int v_this_open, .int v_this_unitIsDue, .int res.2.2.1, .int v_this_firstDigit, .int v_this_number, .int res.2.2.2.1])), (a_this_codes, .inl (cI, 50, .inl res.1)), (a_this_waiting, .inl (cI, 50, .inl v_this_waiting))] := by
  unfold F_X7_end at h
  refine ii_metV (own := RX7) (lv0 := [(0, .ref a_this), (1, .int p0)]) (by decide) rfl rfl rfl (Nat.le_of_ble_eq_true rfl) (fun {p e s m args below meth c A Q} hQ => ?_)
  refine ii_aload_n 0 dX7_end_0 rfl ?_
  obtain ⟨c_1, hc_1, h⟩ := bnd h
  refine ii_callVv (As := []) (ws' := [(a_this, .inr (7, [.ref a_this_codes, .int c_1.2.1, .ref a_this_waiting, .int v_this_waits, .int v_this_open, .int v_this_unitIsDue, .int c_1.2.2, .int v_this_firstDigit, .int v_this_number, .int v_this_fault])), (a_this_codes, .inl (cI, 50, .inl c_1.1)), (a_this_waiting, .inl (cI, 50, .inl v_this_waiting))]) (st := []) (c_X7_endNumber l D cI cJ cZ cH a_this a_this_codes a_this_waiting v_this_codes v_this_count v_this_digits v_this_fault v_this_firstDigit v_this_number v_this_open v_this_unitIsDue v_this_waits hc_1) gzX7_55 rfl rfl rfl eV_X7_endNumber ⟨Nat.le_of_ble_eq_true rfl, Nat.le_of_ble_eq_true rfl⟩ rfl 0 rfl rfl [0, 1] rfl rfl rfl rfl rfl (Nat.le_of_ble_eq_true rfl) (Nat.le_refl _) (Nat.le_refl _) rfl dX7_end_1 ?_
  refine ii_aload_n 0 dX7_end_4 rfl ?_
  refine ii_iconst dX7_end_5 kc1 ?_
  obtain ⟨c_2, hc_2, h⟩ := bnd h
  refine ii_callVv (As := [.int (1 : Int32)]) (ws' := [(a_this, .inr (7, [.ref a_this_codes, .int c_2.2.1, .ref a_this_waiting, .int c_2.2.2, .int v_this_open, .int v_this_unitIsDue, .int c_1.2.2, .int v_this_firstDigit, .int v_this_number, .int v_this_fault])), (a_this_codes, .inl (cI, 50, .inl c_2.1)), (a_this_waiting, .inl (cI, 50, .inl v_this_waiting))]) (st := []) (c_X7_release l D cI cJ cZ cH a_this a_this_codes a_this_waiting c_1.1 c_1.2.1 c_1.2.2 v_this_fault v_this_firstDigit v_this_number v_this_open v_this_unitIsDue v_this_waiting v_this_waits (1 : Int32) hc_2) gzX7_85 rfl rfl rfl eV_X7_release ⟨Nat.le_of_ble_eq_true rfl, Nat.le_of_ble_eq_true rfl⟩ rfl 0 rfl rfl [0, 1, 2] rfl rfl rfl rfl rfl (Nat.le_of_ble_eq_true rfl) (Nat.le_refl _) (Nat.le_refl _) rfl dX7_end_6 ?_
  refine ii_aload_n 0 dX7_end_9 rfl ?_
  refine ii_get (C := RX7) (T := TX7) (N := 10) (ci := 7) izX7 0 rfl rfl 5 (by decide) kX7_28 rfl dX7_end_10 ?_
  refine ii_jn h (fun j_3 => [(a_this, .inr (7, [.ref a_this_codes, .int c_2.2.1, .ref a_this_waiting, .int c_2.2.2, .int v_this_open, .int v_this_unitIsDue, .int c_1.2.2, .int v_this_firstDigit, .int v_this_number, .int j_3])), (a_this_codes, .inl (cI, 50, .inl c_2.1)), (a_this_waiting, .inl (cI, 50, .inl v_this_waiting))]) (fun j_3 => []) 33 (fun j_3 => []) (fun j_3 h => ?_) (fun j_3 h hjj_3 => ?_)
  · skip
    cases h
    exact hQ _ _ dX7_end_33
  · skip
    refine ii_if_ne (tgt := 23) h dX7_end_13 (by decide) (fun h => ?_) (fun h => ?_)
    · skip
      refine ii_aload_n 0 dX7_end_23 rfl ?_
      refine ii_bipush dX7_end_24 kb10 ?_
      refine ii_iload_n 1 dX7_end_26 rfl ?_
      refine ii_imul dX7_end_27 ?_
      refine ii_iconst dX7_end_28 kc1 ?_
      refine ii_iadd dX7_end_29 ?_
      refine ii_topI h (fun x_4 h => ?_)
      refine ii_put (C := RX7) (T := TX7) (N := 10) (ci := 7) (ty0 := tyX7) (ws' := [(a_this, .inr (7, [.ref a_this_codes, .int c_2.2.1, .ref a_this_waiting, .int c_2.2.2, .int v_this_open, .int v_this_unitIsDue, .int c_1.2.2, .int v_this_firstDigit, .int v_this_number, .int x_4])), (a_this_codes, .inl (cI, 50, .inl c_2.1)), (a_this_waiting, .inl (cI, 50, .inl v_this_waiting))]) izX7 tyX7_ok nmX7 0 rfl rfl 9 (by decide) kX7_35 rfl rfl rfl (Nat.le_of_ble_eq_true rfl) dX7_end_30 rfl ?_
      refine ii_lv [] rfl ?_
      cases h
      exact hjj_3
    · skip
      refine ii_aload_n 0 dX7_end_16 rfl ?_
      refine ii_get (C := RX7) (T := TX7) (N := 10) (ci := 7) izX7 0 rfl rfl 3 (by decide) kX7_22 rfl dX7_end_17 ?_
      refine ii_if_le (tgt := 33) h dX7_end_20 (by decide) (fun h => ?_) (fun h => ?_)
      · skip
        refine ii_lv [] rfl ?_
        cases h
        exact hjj_3
      · skip
        refine ii_aload_n 0 dX7_end_23 rfl ?_
        refine ii_bipush dX7_end_24 kb10 ?_
        refine ii_iload_n 1 dX7_end_26 rfl ?_
        refine ii_imul dX7_end_27 ?_
        refine ii_iconst dX7_end_28 kc1 ?_
        refine ii_iadd dX7_end_29 ?_
        refine ii_topI h (fun x_5 h => ?_)
        refine ii_put (C := RX7) (T := TX7) (N := 10) (ci := 7) (ty0 := tyX7) (ws' := [(a_this, .inr (7, [.ref a_this_codes, .int c_2.2.1, .ref a_this_waiting, .int c_2.2.2, .int v_this_open, .int v_this_unitIsDue, .int c_1.2.2, .int v_this_firstDigit, .int v_this_number, .int x_5])), (a_this_codes, .inl (cI, 50, .inl c_2.1)), (a_this_waiting, .inl (cI, 50, .inl v_this_waiting))]) izX7 tyX7_ok nmX7 0 rfl rfl 9 (by decide) kX7_35 rfl rfl rfl (Nat.le_of_ble_eq_true rfl) dX7_end_30 rfl ?_
        refine ii_lv [] rfl ?_
        cases h
        exact hjj_3
set_option maxHeartbeats 4000000 in
set_option maxRecDepth 100000 in
theorem c_X7_read (l : Launch) (D : va_G) (cI cJ cZ cH : ClassId) (a_p0 a_p0_cells a_this a_this_codes a_this_waiting : Nat) (n_p0_cells : Nat) (v_p0_cells : Nat → Int32) (v_p0_limit : Int32) (v_p0_rows : Int32) (v_p0_width : Int32) (v_this_codes : Nat → Int32) (v_this_count : Int32) (v_this_digits : Int32) (v_this_fault : Int32) (v_this_firstDigit : Int32) (v_this_number : Int32) (v_this_open : Int32) (v_this_unitIsDue : Int32) (v_this_waiting : Nat → Int32) (v_this_waits : Int32) (p1 : Int32) {res : Int32 × (Nat → Int32) × Int32 × Int32 × Int32 × Int32 × Int32 × Int32 × Int32 × (Nat → Int32) × Int32} (h : F_X7_read n_p0_cells v_p0_cells v_p0_rows v_p0_width v_this_codes v_this_count v_this_digits v_this_fault v_this_firstDigit v_this_number v_this_open v_this_unitIsDue v_this_waiting v_this_waits p1 = some res) : CTi l yX7_read wzX7_read { frames := 5, cells := 0, slots := 0, locals := 111 } D [(cI, .int), (cJ, .long), (cZ, .boolean), (cH, .object "TinHouse$House")] [.ref a_this, .ref a_p0, .int p1] [(a_p0, .inr (8, [.int v_p0_width, .int v_p0_limit, .ref a_p0_cells, .int v_p0_rows])), (a_p0_cells, .inl (cI, n_p0_cells, .inl v_p0_cells)), (a_this, .inr (7, [.ref a_this_codes, .int v_this_count, .ref a_this_waiting, .int v_this_waits, .int v_this_open, .int v_this_unitIsDue, .int v_this_digits, .int v_this_firstDigit, .int v_this_number, .int v_this_fault])), (a_this_codes, .inl (cI, 50, .inl v_this_codes)), (a_this_waiting, .inl (cI, 50, .inl v_this_waiting))] res.1 [(a_p0, .inr (8, [.int v_p0_width, .int v_p0_limit, .ref a_p0_cells, .int v_p0_rows])), (a_p0_cells, .inl (cI, n_p0_cells, .inl v_p0_cells)), (a_this, .inr (7, [.ref a_this_codes, .int res.2.2.1, .ref a_this_waiting, .int res.2.2.2.2.2.2.2.2.2.2, .int res.2.2.2.2.2.2.2.1, .int res.2.2.2.2.2.2.2.2.1, .int res.2.2.2.1, .int res.2.2.2.2.2.1, .int res.2.2.2.2.2.2.1, .int res.2.2.2.2.1])), (a_this_codes, .inl (cI, 50, .inl res.2.1)), (a_this_waiting, .inl (cI, 50, .inl res.2.2.2.2.2.2.2.2.2.1))] := by
  unfold F_X7_read at h
  refine ii_metI (own := RX7) (lv0 := [(0, .ref a_this), (1, .ref a_p0), (2, .int p1)]) (by decide) rfl rfl rfl (Nat.le_of_ble_eq_true rfl) (fun {p e s m args below meth c A Q} hQ => ?_)
  refine ii_aload_n 0 dX7_read_0 rfl ?_
  refine ii_iconst dX7_read_1 kc0 ?_
  refine ii_put (C := RX7) (T := TX7) (N := 10) (ci := 7) (ty0 := tyX7) (ws' := [(a_p0, .inr (8, [.int v_p0_width, .int v_p0_limit, .ref a_p0_cells, .int v_p0_rows])), (a_p0_cells, .inl (cI, n_p0_cells, .inl v_p0_cells)), (a_this, .inr (7, [.ref a_this_codes, .int (0 : Int32), .ref a_this_waiting, .int v_this_waits, .int v_this_open, .int v_this_unitIsDue, .int v_this_digits, .int v_this_firstDigit, .int v_this_number, .int v_this_fault])), (a_this_codes, .inl (cI, 50, .inl v_this_codes)), (a_this_waiting, .inl (cI, 50, .inl v_this_waiting))]) izX7 tyX7_ok nmX7 2 rfl rfl 1 (by decide) kX7_18 rfl rfl rfl (Nat.le_of_ble_eq_true rfl) dX7_read_2 rfl ?_
  refine ii_aload_n 0 dX7_read_5 rfl ?_
  refine ii_iconst dX7_read_6 kc0 ?_
  refine ii_put (C := RX7) (T := TX7) (N := 10) (ci := 7) (ty0 := tyX7) (ws' := [(a_p0, .inr (8, [.int v_p0_width, .int v_p0_limit, .ref a_p0_cells, .int v_p0_rows])), (a_p0_cells, .inl (cI, n_p0_cells, .inl v_p0_cells)), (a_this, .inr (7, [.ref a_this_codes, .int (0 : Int32), .ref a_this_waiting, .int (0 : Int32), .int v_this_open, .int v_this_unitIsDue, .int v_this_digits, .int v_this_firstDigit, .int v_this_number, .int v_this_fault])), (a_this_codes, .inl (cI, 50, .inl v_this_codes)), (a_this_waiting, .inl (cI, 50, .inl v_this_waiting))]) izX7 tyX7_ok nmX7 2 rfl rfl 3 (by decide) kX7_22 rfl rfl rfl (Nat.le_of_ble_eq_true rfl) dX7_read_7 rfl ?_
  refine ii_aload_n 0 dX7_read_10 rfl ?_
  refine ii_iconst dX7_read_11 kc0 ?_
  refine ii_put (C := RX7) (T := TX7) (N := 10) (ci := 7) (ty0 := tyX7) (ws' := [(a_p0, .inr (8, [.int v_p0_width, .int v_p0_limit, .ref a_p0_cells, .int v_p0_rows])), (a_p0_cells, .inl (cI, n_p0_cells, .inl v_p0_cells)), (a_this, .inr (7, [.ref a_this_codes, .int (0 : Int32), .ref a_this_waiting, .int (0 : Int32), .int (0 : Int32), .int v_this_unitIsDue, .int v_this_digits, .int v_this_firstDigit, .int v_this_number, .int v_this_fault])), (a_this_codes, .inl (cI, 50, .inl v_this_codes)), (a_this_waiting, .inl (cI, 50, .inl v_this_waiting))]) izX7 tyX7_ok nmX7 2 rfl rfl 4 (by decide) kX7_25 rfl rfl rfl (Nat.le_of_ble_eq_true rfl) dX7_read_12 rfl ?_
  refine ii_aload_n 0 dX7_read_15 rfl ?_
  refine ii_iconst dX7_read_16 kc1 ?_
  refine ii_put (C := RX7) (T := TX7) (N := 10) (ci := 7) (ty0 := tyX7) (ws' := [(a_p0, .inr (8, [.int v_p0_width, .int v_p0_limit, .ref a_p0_cells, .int v_p0_rows])), (a_p0_cells, .inl (cI, n_p0_cells, .inl v_p0_cells)), (a_this, .inr (7, [.ref a_this_codes, .int (0 : Int32), .ref a_this_waiting, .int (0 : Int32), .int (0 : Int32), .int (1 : Int32), .int v_this_digits, .int v_this_firstDigit, .int v_this_number, .int v_this_fault])), (a_this_codes, .inl (cI, 50, .inl v_this_codes)), (a_this_waiting, .inl (cI, 50, .inl v_this_waiting))]) izX7 tyX7_ok nmX7 2 rfl rfl 5 (by decide) kX7_28 rfl rfl rfl (Nat.le_of_ble_eq_true rfl) dX7_read_17 rfl ?_
  refine ii_aload_n 0 dX7_read_20 rfl ?_
  refine ii_iconst dX7_read_21 kc0 ?_
  refine ii_put (C := RX7) (T := TX7) (N := 10) (ci := 7) (ty0 := tyX7) (ws' := [(a_p0, .inr (8, [.int v_p0_width, .int v_p0_limit, .ref a_p0_cells, .int v_p0_rows])), (a_p0_cells, .inl (cI, n_p0_cells, .inl v_p0_cells)), (a_this, .inr (7, [.ref a_this_codes, .int (0 : Int32), .ref a_this_waiting, .int (0 : Int32), .int (0 : Int32), .int (1 : Int32), .int (0 : Int32), .int v_this_firstDigit, .int v_this_number, .int v_this_fault])), (a_this_codes, .inl (cI, 50, .inl v_this_codes)), (a_this_waiting, .inl (cI, 50, .inl v_this_waiting))]) izX7 tyX7_ok nmX7 2 rfl rfl 6 (by decide) kX7_32 rfl rfl rfl (Nat.le_of_ble_eq_true rfl) dX7_read_22 rfl ?_
  refine ii_aload_n 0 dX7_read_25 rfl ?_
  refine ii_iconst dX7_read_26 kcm1 ?_
  refine ii_put (C := RX7) (T := TX7) (N := 10) (ci := 7) (ty0 := tyX7) (ws' := [(a_p0, .inr (8, [.int v_p0_width, .int v_p0_limit, .ref a_p0_cells, .int v_p0_rows])), (a_p0_cells, .inl (cI, n_p0_cells, .inl v_p0_cells)), (a_this, .inr (7, [.ref a_this_codes, .int (0 : Int32), .ref a_this_waiting, .int (0 : Int32), .int (0 : Int32), .int (1 : Int32), .int (0 : Int32), .int v_this_firstDigit, .int v_this_number, .int (-1 : Int32)])), (a_this_codes, .inl (cI, 50, .inl v_this_codes)), (a_this_waiting, .inl (cI, 50, .inl v_this_waiting))]) izX7 tyX7_ok nmX7 2 rfl rfl 9 (by decide) kX7_35 rfl rfl rfl (Nat.le_of_ble_eq_true rfl) dX7_read_27 rfl ?_
  refine ii_aload_n 1 dX7_read_30 rfl ?_
  refine ii_iload_n 2 dX7_read_31 rfl ?_
  refine ii_iconst dX7_read_32 kc0 ?_
  obtain ⟨c_1, hc_1, h⟩ := bnd h
  refine ii_callVi (As := [.int p1, .int (0 : Int32)]) (ws' := [(a_p0, .inr (8, [.int v_p0_width, .int v_p0_limit, .ref a_p0_cells, .int v_p0_rows])), (a_p0_cells, .inl (cI, n_p0_cells, .inl v_p0_cells)), (a_this, .inr (7, [.ref a_this_codes, .int (0 : Int32), .ref a_this_waiting, .int (0 : Int32), .int (0 : Int32), .int (1 : Int32), .int (0 : Int32), .int v_this_firstDigit, .int v_this_number, .int (-1 : Int32)])), (a_this_codes, .inl (cI, 50, .inl v_this_codes)), (a_this_waiting, .inl (cI, 50, .inl v_this_waiting))]) (st := []) (c_X8_get l D cI cJ cZ cH a_p0 a_p0_cells n_p0_cells v_p0_cells v_p0_limit v_p0_rows v_p0_width p1 (0 : Int32) hc_1) gzX7_38 rfl rfl rfl eV_X8_get ⟨Nat.le_of_ble_eq_true rfl, Nat.le_of_ble_eq_true rfl⟩ rfl 0 rfl rfl [0, 1] rfl rfl rfl rfl rfl (Nat.le_of_ble_eq_true rfl) (Nat.le_refl _) (Nat.le_refl _) rfl dX7_read_33 ?_
  refine ii_istore_n (lv' := [(3, .int c_1), (0, .ref a_this), (1, .ref a_p0), (2, .int p1)]) dX7_read_36 rfl (by decide) rfl ?_
  refine ii_iconst dX7_read_37 kc0 ?_
  refine ii_istore (lv' := [(4, .int (0 : Int32)), (3, .int c_1), (0, .ref a_this), (1, .ref a_p0), (2, .int p1)]) dX7_read_38 (by decide) rfl ?_
  refine ii_lv [2, 3, 4, 1, 0] rfl ?_
  obtain ⟨x_3, hl_2, h⟩ := bnd h
  refine ii_loopX (fun s_2 => [(a_p0, .inr (8, [.int v_p0_width, .int v_p0_limit, .ref a_p0_cells, .int v_p0_rows])), (a_p0_cells, .inl (cI, n_p0_cells, .inl v_p0_cells)), (a_this, .inr (7, [.ref a_this_codes, .int s_2.2.2.1, .ref a_this_waiting, .int s_2.2.2.2.2.2.2.2.2.2.2, .int s_2.2.2.2.2.2.2.2.1, .int s_2.2.2.2.2.2.2.2.2.1, .int s_2.2.2.2.1, .int s_2.2.2.2.2.2.1, .int s_2.2.2.2.2.2.2.1, .int s_2.2.2.2.2.1])), (a_this_codes, .inl (cI, 50, .inl s_2.2.1)), (a_this_waiting, .inl (cI, 50, .inl s_2.2.2.2.2.2.2.2.2.2.1))]) (fun s_2 => [(0, .ref a_this), (1, .ref a_p0), (2, .int p1), (3, .int c_1), (4, .int s_2.1)]) (fun x_3 => [(a_p0, .inr (8, [.int v_p0_width, .int v_p0_limit, .ref a_p0_cells, .int v_p0_rows])), (a_p0_cells, .inl (cI, n_p0_cells, .inl v_p0_cells)), (a_this, .inr (7, [.ref a_this_codes, .int x_3.2.2.1, .ref a_this_waiting, .int x_3.2.2.2.2.2.2.2.2.2.2, .int x_3.2.2.2.2.2.2.2.1, .int x_3.2.2.2.2.2.2.2.2.1, .int x_3.2.2.2.1, .int x_3.2.2.2.2.2.1, .int x_3.2.2.2.2.2.2.1, .int x_3.2.2.2.2.1])), (a_this_codes, .inl (cI, 50, .inl x_3.2.1)), (a_this_waiting, .inl (cI, 50, .inl x_3.2.2.2.2.2.2.2.2.2.1))]) (fun x_3 => [(0, .ref a_this), (3, .int c_1)]) 75 hl_2 rfl rfl ?_ (fun s_2 o h hb_2 hr_2 hx_2 => ?_)
  · skip
    refine ii_aload_n 0 dX7_read_75 rfl ?_
    refine ii_get (C := RX7) (T := TX7) (N := 10) (ci := 7) izX7 2 rfl rfl 9 (by decide) kX7_35 rfl dX7_read_76 ?_
    refine ii_iconst dX7_read_79 kcm1 ?_
    refine ii_jn h (fun j_7 => [(a_p0, .inr (8, [.int v_p0_width, .int v_p0_limit, .ref a_p0_cells, .int v_p0_rows])), (a_p0_cells, .inl (cI, n_p0_cells, .inl v_p0_cells)), (a_this, .inr (7, [.ref a_this_codes, .int j_7.2.1, .ref a_this_waiting, .int j_7.2.2.2.2, .int x_3.2.2.2.2.2.2.2.1, .int x_3.2.2.2.2.2.2.2.2.1, .int j_7.2.2.1, .int x_3.2.2.2.2.2.1, .int x_3.2.2.2.2.2.2.1, .int j_7.2.2.2.1])), (a_this_codes, .inl (cI, 50, .inl j_7.1)), (a_this_waiting, .inl (cI, 50, .inl x_3.2.2.2.2.2.2.2.2.2.1))]) (fun j_7 => [(0, .ref a_this)]) 88 (fun j_7 => []) (fun j_7 h => ?_) (fun j_7 h hjj_7 => ?_)
    · skip
      refine ii_aload_n 0 dX7_read_88 rfl ?_
      refine ii_get (C := RX7) (T := TX7) (N := 10) (ci := 7) izX7 2 rfl rfl 9 (by decide) kX7_35 rfl dX7_read_89 ?_
      cases h
      exact hQ _ _ dX7_read_92
    · skip
      refine ii_icmp_ne (tgt := 88) h dX7_read_80 (by decide) (fun h => ?_) (fun h => ?_)
      · skip
        refine ii_lv [0] rfl ?_
        cases h
        exact hjj_7
      · skip
        refine ii_aload_n 0 dX7_read_83 rfl ?_
        refine ii_iload_n 1 dX7_read_84 rfl ?_
        obtain ⟨c_8, hc_8, h⟩ := bnd h
        refine ii_callVv (As := [.int c_1]) (ws' := [(a_p0, .inr (8, [.int v_p0_width, .int v_p0_limit, .ref a_p0_cells, .int v_p0_rows])), (a_p0_cells, .inl (cI, n_p0_cells, .inl v_p0_cells)), (a_this, .inr (7, [.ref a_this_codes, .int c_8.2.1, .ref a_this_waiting, .int c_8.2.2.2.2, .int x_3.2.2.2.2.2.2.2.1, .int x_3.2.2.2.2.2.2.2.2.1, .int c_8.2.2.1, .int x_3.2.2.2.2.2.1, .int x_3.2.2.2.2.2.2.1, .int c_8.2.2.2.1])), (a_this_codes, .inl (cI, 50, .inl c_8.1)), (a_this_waiting, .inl (cI, 50, .inl x_3.2.2.2.2.2.2.2.2.2.1))]) (st := []) (c_X7_end l D cI cJ cZ cH a_this a_this_codes a_this_waiting x_3.2.1 x_3.2.2.1 x_3.2.2.2.1 x_3.2.2.2.2.1 x_3.2.2.2.2.2.1 x_3.2.2.2.2.2.2.1 x_3.2.2.2.2.2.2.2.1 x_3.2.2.2.2.2.2.2.2.1 x_3.2.2.2.2.2.2.2.2.2.1 x_3.2.2.2.2.2.2.2.2.2.2 c_1 hc_8) gzX7_48 rfl rfl rfl eV_X7_end ⟨Nat.le_of_ble_eq_true rfl, Nat.le_of_ble_eq_true rfl⟩ rfl 2 rfl rfl [2, 3, 4] rfl rfl rfl rfl rfl (Nat.le_of_ble_eq_true rfl) (Nat.le_refl _) (Nat.le_refl _) rfl dX7_read_85 ?_
        refine ii_lv [0] rfl ?_
        cases h
        exact hjj_7
  · skip
    refine ii_iload 4 dX7_read_40 rfl ?_
    refine ii_iload_n 3 dX7_read_42 rfl ?_
    refine ii_icmp_ge (tgt := 75) h dX7_read_43 (by decide) (fun h => ?_) (fun h => ?_)
    · skip
      refine ii_lv [0, 3] rfl ?_
      cases h
      exact hx_2 (s_2.1, s_2.2.1, s_2.2.2.1, s_2.2.2.2.1, s_2.2.2.2.2.1, s_2.2.2.2.2.2.1, s_2.2.2.2.2.2.2.1, s_2.2.2.2.2.2.2.2.1, s_2.2.2.2.2.2.2.2.2.1, s_2.2.2.2.2.2.2.2.2.2.1, s_2.2.2.2.2.2.2.2.2.2.2) (hr_2 _ rfl)
    · skip
      refine ii_aload_n 0 dX7_read_46 rfl ?_
      refine ii_get (C := RX7) (T := TX7) (N := 10) (ci := 7) izX7 2 rfl rfl 9 (by decide) kX7_35 rfl dX7_read_47 ?_
      refine ii_iconst dX7_read_50 kcm1 ?_
      refine ii_icmp_ne (tgt := 75) h dX7_read_51 (by decide) (fun h => ?_) (fun h => ?_)
      · skip
        refine ii_lv [0, 3] rfl ?_
        cases h
        exact hx_2 (s_2.1, s_2.2.1, s_2.2.2.1, s_2.2.2.2.1, s_2.2.2.2.2.1, s_2.2.2.2.2.2.1, s_2.2.2.2.2.2.2.1, s_2.2.2.2.2.2.2.2.1, s_2.2.2.2.2.2.2.2.2.1, s_2.2.2.2.2.2.2.2.2.2.1, s_2.2.2.2.2.2.2.2.2.2.2) (hr_2 _ rfl)
      · skip
        refine ii_aload_n 0 dX7_read_54 rfl ?_
        refine ii_iload 4 dX7_read_55 rfl ?_
        refine ii_aload_n 1 dX7_read_57 rfl ?_
        refine ii_iload_n 2 dX7_read_58 rfl ?_
        refine ii_iconst dX7_read_59 kc1 ?_
        refine ii_iload 4 dX7_read_60 rfl ?_
        refine ii_iadd dX7_read_62 ?_
        obtain ⟨c_4, hc_4, h⟩ := bnd h
        refine ii_callVi (As := [.int p1, .int ((1 : Int32) + s_2.1)]) (ws' := [(a_p0, .inr (8, [.int v_p0_width, .int v_p0_limit, .ref a_p0_cells, .int v_p0_rows])), (a_p0_cells, .inl (cI, n_p0_cells, .inl v_p0_cells)), (a_this, .inr (7, [.ref a_this_codes, .int s_2.2.2.1, .ref a_this_waiting, .int s_2.2.2.2.2.2.2.2.2.2.2, .int s_2.2.2.2.2.2.2.2.1, .int s_2.2.2.2.2.2.2.2.2.1, .int s_2.2.2.2.1, .int s_2.2.2.2.2.2.1, .int s_2.2.2.2.2.2.2.1, .int s_2.2.2.2.2.1])), (a_this_codes, .inl (cI, 50, .inl s_2.2.1)), (a_this_waiting, .inl (cI, 50, .inl s_2.2.2.2.2.2.2.2.2.2.1))]) (st := [.int s_2.1, .ref a_this]) (c_X8_get l D cI cJ cZ cH a_p0 a_p0_cells n_p0_cells v_p0_cells v_p0_limit v_p0_rows v_p0_width p1 ((1 : Int32) + s_2.1) hc_4) gzX7_38 rfl rfl rfl eV_X8_get ⟨Nat.le_of_ble_eq_true rfl, Nat.le_of_ble_eq_true rfl⟩ rfl 0 rfl rfl [0, 1] rfl rfl rfl rfl rfl (Nat.le_of_ble_eq_true rfl) (Nat.le_refl _) (Nat.le_refl _) rfl dX7_read_63 ?_
        obtain ⟨c_5, hc_5, h⟩ := bnd h
        refine ii_callVv (As := [.int s_2.1, .int c_4]) (ws' := [(a_p0, .inr (8, [.int v_p0_width, .int v_p0_limit, .ref a_p0_cells, .int v_p0_rows])), (a_p0_cells, .inl (cI, n_p0_cells, .inl v_p0_cells)), (a_this, .inr (7, [.ref a_this_codes, .int c_5.2.1, .ref a_this_waiting, .int c_5.2.2.2.2.2.2.2.2.2, .int c_5.2.2.2.2.2.2.1, .int c_5.2.2.2.2.2.2.2.1, .int c_5.2.2.1, .int c_5.2.2.2.2.1, .int c_5.2.2.2.2.2.1, .int c_5.2.2.2.1])), (a_this_codes, .inl (cI, 50, .inl c_5.1)), (a_this_waiting, .inl (cI, 50, .inl c_5.2.2.2.2.2.2.2.2.1))]) (st := []) (c_X7_take l D cI cJ cZ cH a_this a_this_codes a_this_waiting s_2.2.1 s_2.2.2.1 s_2.2.2.2.1 s_2.2.2.2.2.1 s_2.2.2.2.2.2.1 s_2.2.2.2.2.2.2.1 s_2.2.2.2.2.2.2.2.1 s_2.2.2.2.2.2.2.2.2.1 s_2.2.2.2.2.2.2.2.2.2.1 s_2.2.2.2.2.2.2.2.2.2.2 s_2.1 c_4 hc_5) gzX7_44 rfl rfl rfl eV_X7_take ⟨Nat.le_of_ble_eq_true rfl, Nat.le_of_ble_eq_true rfl⟩ rfl 2 rfl rfl [2, 3, 4] rfl rfl rfl rfl rfl (Nat.le_of_ble_eq_true rfl) (Nat.le_refl _) (Nat.le_refl _) rfl dX7_read_66 ?_
        refine ii_iinc (fun x_6 => [(4, .int x_6), (0, .ref a_this), (1, .ref a_p0), (2, .int p1), (3, .int c_1)]) h 4 dX7_read_69 rfl kc1 (by decide) (fun _ => rfl) (fun x_6 h => ?_)
        refine ii_goto (tgt := 40) dX7_read_72 (by decide) ?_
        refine ii_lv [1, 2, 3, 4, 0] rfl ?_
        cases h
        exact hb_2 (x_6, c_5.1, c_5.2.1, c_5.2.2.1, c_5.2.2.2.1, c_5.2.2.2.2.1, c_5.2.2.2.2.2.1, c_5.2.2.2.2.2.2.1, c_5.2.2.2.2.2.2.2.1, c_5.2.2.2.2.2.2.2.2.1, c_5.2.2.2.2.2.2.2.2.2) rfl
