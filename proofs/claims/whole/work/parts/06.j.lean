set_option maxHeartbeats 4000000 in
set_option maxRecDepth 100000 in
theorem c_X12_twoOf (l : Launch) (D : va_G) (cI cJ cZ cH : ClassId) (p0 : Int32) (p1 : Int64) (p2 : Int64) {res : Int64} (h : F_X12_twoOf p0 p1 p2 = some res) : CTl l yX12_twoOf wzX12_twoOf { frames := 0, cells := 0, slots := 0, locals := 0 } D [(cI, .int), (cJ, .long), (cZ, .boolean), (cH, .object "TinHouse$House")] [.int p0, .long p1, .long p2] [] res [] := by
  unfold F_X12_twoOf at h
  refine ii_metL (own := RX12) (lv0 := [(0, .int p0), (1, .long p1), (3, .long p2)]) (by decide) rfl rfl rfl (Nat.le_of_ble_eq_true rfl) (fun {p e s m args below meth c A Q} hQ => ?_)
  refine ii_iload_n 0 dX12_twoOf_0 rfl ?_
  refine ii_sw h (fun hq4 h => ?_) (fun hq4 h => ?_)
  · skip
    refine ii_tableIn (tgt := 48) (x := p0) (k0 := (4 : Int32)) (a := 4) dX12_twoOf_1 hq4 rfl (by decide) (by decide) rfl (by decide) ?_
    refine ii_lload_n 1 dX12_twoOf_48 rfl ?_
    refine ii_lload_n 2 dX12_twoOf_49 rfl ?_
    refine ii_lmul dX12_twoOf_50 ?_
    cases h
    exact hQ _ _ dX12_twoOf_51
  refine ii_sw h (fun hq5 h => ?_) (fun hq5 h => ?_)
  · skip
    refine ii_tableIn (tgt := 52) (x := p0) (k0 := (5 : Int32)) (a := 5) dX12_twoOf_1 hq5 rfl (by decide) (by decide) rfl (by decide) ?_
    refine ii_lload_n 2 dX12_twoOf_52 rfl ?_
    refine ii_lconst dX12_twoOf_53 kl0 ?_
    refine ii_jn h (fun j_1 => []) (fun j_1 => []) 65 (fun j_1 => [.long j_1]) (fun j_1 h => ?_) (fun j_1 h hjj_1 => ?_)
    · skip
      cases h
      exact hQ _ _ dX12_twoOf_65
    · skip
      refine ii_lcmp_ne (tgt := 62) h dX12_twoOf_54 dX12_twoOf_55 (by decide) (fun h => ?_) (fun h => ?_)
      · skip
        refine ii_lload_n 1 dX12_twoOf_62 rfl ?_
        refine ii_lload_n 2 dX12_twoOf_63 rfl ?_
        refine ii_ldiv h dX12_twoOf_64 (fun t_2 h => ?_)
        refine ii_lv [] rfl ?_
        cases h
        exact hjj_1
      · skip
        refine ii_lconst dX12_twoOf_58 kl0 ?_
        refine ii_goto (tgt := 65) dX12_twoOf_59 (by decide) ?_
        refine ii_lv [] rfl ?_
        cases h
        exact hjj_1
  refine ii_sw h (fun hq6 h => ?_) (fun hq6 h => ?_)
  · skip
    refine ii_tableIn (tgt := 66) (x := p0) (k0 := (6 : Int32)) (a := 6) dX12_twoOf_1 hq6 rfl (by decide) (by decide) rfl (by decide) ?_
    refine ii_lload_n 1 dX12_twoOf_66 rfl ?_
    refine ii_lload_n 2 dX12_twoOf_67 rfl ?_
    refine ii_ladd dX12_twoOf_68 ?_
    cases h
    exact hQ _ _ dX12_twoOf_69
  refine ii_sw h (fun hq7 h => ?_) (fun hq7 h => ?_)
  · skip
    refine ii_tableIn (tgt := 70) (x := p0) (k0 := (7 : Int32)) (a := 7) dX12_twoOf_1 hq7 rfl (by decide) (by decide) rfl (by decide) ?_
    refine ii_lload_n 1 dX12_twoOf_70 rfl ?_
    refine ii_lload_n 2 dX12_twoOf_71 rfl ?_
    refine ii_lsub dX12_twoOf_72 ?_
    cases h
    exact hQ _ _ dX12_twoOf_73
  refine ii_sw h (fun hq8 h => ?_) (fun hq8 h => ?_)
  · skip
    refine ii_tableIn (tgt := 74) (x := p0) (k0 := (8 : Int32)) (a := 8) dX12_twoOf_1 hq8 rfl (by decide) (by decide) rfl (by decide) ?_
    refine ii_lload_n 1 dX12_twoOf_74 rfl ?_
    refine ii_lload_n 2 dX12_twoOf_75 rfl ?_
    refine ii_jn h (fun j_3 => []) (fun j_3 => []) 85 (fun j_3 => [.long j_3]) (fun j_3 h => ?_) (fun j_3 h hjj_3 => ?_)
    · skip
      cases h
      exact hQ _ _ dX12_twoOf_85
    · skip
      refine ii_lcmp_ge (tgt := 84) h dX12_twoOf_76 dX12_twoOf_77 (by decide) (fun h => ?_) (fun h => ?_)
      · skip
        refine ii_lconst dX12_twoOf_84 kl0 ?_
        refine ii_lv [] rfl ?_
        cases h
        exact hjj_3
      · skip
        refine ii_lconst dX12_twoOf_80 kl1 ?_
        refine ii_goto (tgt := 85) dX12_twoOf_81 (by decide) ?_
        refine ii_lv [] rfl ?_
        cases h
        exact hjj_3
  refine ii_sw h (fun hq9 h => ?_) (fun hq9 h => ?_)
  · skip
    refine ii_tableIn (tgt := 86) (x := p0) (k0 := (9 : Int32)) (a := 9) dX12_twoOf_1 hq9 rfl (by decide) (by decide) rfl (by decide) ?_
    refine ii_lload_n 1 dX12_twoOf_86 rfl ?_
    refine ii_lload_n 2 dX12_twoOf_87 rfl ?_
    refine ii_jn h (fun j_4 => []) (fun j_4 => []) 97 (fun j_4 => [.long j_4]) (fun j_4 h => ?_) (fun j_4 h hjj_4 => ?_)
    · skip
      cases h
      exact hQ _ _ dX12_twoOf_97
    · skip
      refine ii_lcmp_le (tgt := 96) h dX12_twoOf_88 dX12_twoOf_89 (by decide) (fun h => ?_) (fun h => ?_)
      · skip
        refine ii_lconst dX12_twoOf_96 kl0 ?_
        refine ii_lv [] rfl ?_
        cases h
        exact hjj_4
      · skip
        refine ii_lconst dX12_twoOf_92 kl1 ?_
        refine ii_goto (tgt := 97) dX12_twoOf_93 (by decide) ?_
        refine ii_lv [] rfl ?_
        cases h
        exact hjj_4
  refine ii_sw h (fun hq10 h => ?_) (fun hq10 h => ?_)
  · skip
    refine ii_tableIn (tgt := 98) (x := p0) (k0 := (10 : Int32)) (a := 10) dX12_twoOf_1 hq10 rfl (by decide) (by decide) rfl (by decide) ?_
    refine ii_lload_n 1 dX12_twoOf_98 rfl ?_
    refine ii_lload_n 2 dX12_twoOf_99 rfl ?_
    refine ii_jn h (fun j_5 => []) (fun j_5 => []) 109 (fun j_5 => [.long j_5]) (fun j_5 h => ?_) (fun j_5 h hjj_5 => ?_)
    · skip
      cases h
      exact hQ _ _ dX12_twoOf_109
    · skip
      refine ii_lcmp_ne (tgt := 108) h dX12_twoOf_100 dX12_twoOf_101 (by decide) (fun h => ?_) (fun h => ?_)
      · skip
        refine ii_lconst dX12_twoOf_108 kl0 ?_
        refine ii_lv [] rfl ?_
        cases h
        exact hjj_5
      · skip
        refine ii_lconst dX12_twoOf_104 kl1 ?_
        refine ii_goto (tgt := 109) dX12_twoOf_105 (by decide) ?_
        refine ii_lv [] rfl ?_
        cases h
        exact hjj_5
  refine ii_sw h (fun hq11 h => ?_) (fun hq11 h => ?_)
  · skip
    refine ii_tableIn (tgt := 110) (x := p0) (k0 := (11 : Int32)) (a := 11) dX12_twoOf_1 hq11 rfl (by decide) (by decide) rfl (by decide) ?_
    refine ii_lload_n 1 dX12_twoOf_110 rfl ?_
    refine ii_lconst dX12_twoOf_111 kl0 ?_
    refine ii_jn h (fun j_6 => []) (fun j_6 => []) 127 (fun j_6 => [.long j_6]) (fun j_6 h => ?_) (fun j_6 h hjj_6 => ?_)
    · skip
      cases h
      exact hQ _ _ dX12_twoOf_127
    · skip
      refine ii_lcmp_eq (tgt := 126) h dX12_twoOf_112 dX12_twoOf_113 (by decide) (fun h => ?_) (fun h => ?_)
      · skip
        refine ii_lconst dX12_twoOf_126 kl0 ?_
        refine ii_lv [] rfl ?_
        cases h
        exact hjj_6
      · skip
        refine ii_lload_n 2 dX12_twoOf_116 rfl ?_
        refine ii_lconst dX12_twoOf_117 kl0 ?_
        refine ii_lcmp_eq (tgt := 126) h dX12_twoOf_118 dX12_twoOf_119 (by decide) (fun h => ?_) (fun h => ?_)
        · skip
          refine ii_lconst dX12_twoOf_126 kl0 ?_
          refine ii_lv [] rfl ?_
          cases h
          exact hjj_6
        · skip
          refine ii_lconst dX12_twoOf_122 kl1 ?_
          refine ii_goto (tgt := 127) dX12_twoOf_123 (by decide) ?_
          refine ii_lv [] rfl ?_
          cases h
          exact hjj_6
  refine ii_tableOut (tgt := 128) dX12_twoOf_1 (by have n4 := lv_neT hq4 (a := 4) rfl; have n5 := lv_neT hq5 (a := 5) rfl; have n6 := lv_neT hq6 (a := 6) rfl; have n7 := lv_neT hq7 (a := 7) rfl; have n8 := lv_neT hq8 (a := 8) rfl; have n9 := lv_neT hq9 (a := 9) rfl; have n10 := lv_neT hq10 (a := 10) rfl; have n11 := lv_neT hq11 (a := 11) rfl; omega) (by decide) ?_
  refine ii_lload_n 1 dX12_twoOf_128 rfl ?_
  refine ii_lconst dX12_twoOf_129 kl0 ?_
  refine ii_jn h (fun j_7 => []) (fun j_7 => []) 145 (fun j_7 => [.long j_7]) (fun j_7 h => ?_) (fun j_7 h hjj_7 => ?_)
  · skip
    cases h
    exact hQ _ _ dX12_twoOf_145
  · skip
    refine ii_lcmp_ne (tgt := 140) h dX12_twoOf_130 dX12_twoOf_131 (by decide) (fun h => ?_) (fun h => ?_)
    · skip
      refine ii_lconst dX12_twoOf_140 kl1 ?_
      refine ii_goto (tgt := 145) dX12_twoOf_141 (by decide) ?_
      refine ii_lv [] rfl ?_
      cases h
      exact hjj_7
    · skip
      refine ii_lload_n 2 dX12_twoOf_134 rfl ?_
      refine ii_lconst dX12_twoOf_135 kl0 ?_
      refine ii_lcmp_eq (tgt := 144) h dX12_twoOf_136 dX12_twoOf_137 (by decide) (fun h => ?_) (fun h => ?_)
      · skip
        refine ii_lconst dX12_twoOf_144 kl0 ?_
        refine ii_lv [] rfl ?_
        cases h
        exact hjj_7
      · skip
        refine ii_lconst dX12_twoOf_140 kl1 ?_
        refine ii_goto (tgt := 145) dX12_twoOf_141 (by decide) ?_
        refine ii_lv [] rfl ?_
        cases h
        exact hjj_7
set_option maxHeartbeats 4000000 in
set_option maxRecDepth 100000 in
theorem c_X12_tellsOf (l : Launch) (D : va_G) (cI cJ cZ cH : ClassId) (a_this a_this_before a_this_bestLead a_this_can a_this_given a_this_images a_this_isKept a_this_lead a_this_load a_this_most a_this_net a_this_on a_this_owes a_this_row a_this_silver a_this_st a_this_step a_this_to a_this_together a_this_value a_this_waits a_this_with : Nat) (v_this_above : Int64) (v_this_below : Int64) (v_this_given : Nat → Int64) (v_this_step : Nat → Int32) (v_this_steps : Int32) (v_this_value : Nat → Int64) (v_this_waiting : Int32) (v_this_with : Nat → Int32) {res : Int64 × (Nat → Int64)} (h : F_X12_tellsOf v_this_given v_this_step v_this_steps v_this_value v_this_with = some res) : CTl l yX12_tellsOf wzX12_tellsOf { frames := 1, cells := 0, slots := 0, locals := 24 } D [(cI, .int), (cJ, .long), (cZ, .boolean), (cH, .object "TinHouse$House")] [.ref a_this] [(a_this, .inr (12, [.ref a_this_st, .ref a_this_images, .ref a_this_isKept, .long v_this_above, .long v_this_below, .int v_this_steps, .ref a_this_step, .ref a_this_with, .int v_this_waiting, .ref a_this_waits, .ref a_this_value, .ref a_this_given, .ref a_this_net, .ref a_this_together, .ref a_this_most, .ref a_this_owes, .ref a_this_can, .ref a_this_row, .ref a_this_before, .ref a_this_to, .ref a_this_on, .ref a_this_load, .ref a_this_lead, .ref a_this_bestLead, .ref a_this_silver])), (a_this_given, .inl (cJ, 5, .inr (.inl v_this_given))), (a_this_step, .inl (cI, 70, .inl v_this_step)), (a_this_value, .inl (cJ, 70, .inr (.inl v_this_value))), (a_this_with, .inl (cI, 70, .inl v_this_with))] res.1 [(a_this, .inr (12, [.ref a_this_st, .ref a_this_images, .ref a_this_isKept, .long v_this_above, .long v_this_below, .int v_this_steps, .ref a_this_step, .ref a_this_with, .int v_this_waiting, .ref a_this_waits, .ref a_this_value, .ref a_this_given, .ref a_this_net, .ref a_this_together, .ref a_this_most, .ref a_this_owes, .ref a_this_can, .ref a_this_row, .ref a_this_before, .ref a_this_to, .ref a_this_on, .ref a_this_load, .ref a_this_lead, .ref a_this_bestLead, .ref a_this_silver])), (a_this_given, .inl (cJ, 5, .inr (.inl v_this_given))), (a_this_step, .inl (cI, 70, .inl v_this_step)), (a_this_value, .inl (cJ, 70, .inr (.inl res.2))), (a_this_with, .inl (cI, 70, .inl v_this_with))] := by
  unfold F_X12_tellsOf at h
  refine ii_metL (own := RX12) (lv0 := [(0, .ref a_this)]) (by decide) rfl rfl rfl (Nat.le_of_ble_eq_true rfl) (fun {p e s m args below meth c A Q} hQ => ?_)
  refine ii_iconst dX12_tellsOf_0 kc0 ?_
  refine ii_istore_n (lv' := [(1, .int (0 : Int32)), (0, .ref a_this)]) dX12_tellsOf_1 rfl (by decide) rfl ?_
  refine ii_iconst dX12_tellsOf_2 kc0 ?_
  refine ii_istore_n (lv' := [(2, .int (0 : Int32)), (1, .int (0 : Int32)), (0, .ref a_this)]) dX12_tellsOf_3 rfl (by decide) rfl ?_
  refine ii_lv [2, 1, 0] rfl ?_
  obtain ⟨x_2, hl_1, h⟩ := bnd h
  refine ii_loopX (fun s_1 => [(a_this, .inr (12, [.ref a_this_st, .ref a_this_images, .ref a_this_isKept, .long v_this_above, .long v_this_below, .int v_this_steps, .ref a_this_step, .ref a_this_with, .int v_this_waiting, .ref a_this_waits, .ref a_this_value, .ref a_this_given, .ref a_this_net, .ref a_this_together, .ref a_this_most, .ref a_this_owes, .ref a_this_can, .ref a_this_row, .ref a_this_before, .ref a_this_to, .ref a_this_on, .ref a_this_load, .ref a_this_lead, .ref a_this_bestLead, .ref a_this_silver])), (a_this_given, .inl (cJ, 5, .inr (.inl v_this_given))), (a_this_step, .inl (cI, 70, .inl v_this_step)), (a_this_value, .inl (cJ, 70, .inr (.inl s_1.2.2))), (a_this_with, .inl (cI, 70, .inl v_this_with))]) (fun s_1 => [(0, .ref a_this), (1, .int s_1.1), (2, .int s_1.2.1)]) (fun x_2 => [(a_this, .inr (12, [.ref a_this_st, .ref a_this_images, .ref a_this_isKept, .long v_this_above, .long v_this_below, .int v_this_steps, .ref a_this_step, .ref a_this_with, .int v_this_waiting, .ref a_this_waits, .ref a_this_value, .ref a_this_given, .ref a_this_net, .ref a_this_together, .ref a_this_most, .ref a_this_owes, .ref a_this_can, .ref a_this_row, .ref a_this_before, .ref a_this_to, .ref a_this_on, .ref a_this_load, .ref a_this_lead, .ref a_this_bestLead, .ref a_this_silver])), (a_this_given, .inl (cJ, 5, .inr (.inl v_this_given))), (a_this_step, .inl (cI, 70, .inl v_this_step)), (a_this_value, .inl (cJ, 70, .inr (.inl x_2.2.2))), (a_this_with, .inl (cI, 70, .inl v_this_with))]) (fun x_2 => [(0, .ref a_this)]) 209 hl_1 rfl rfl ?_ (fun s_1 o h hb_1 hr_1 hx_1 => ?_)
  · skip
    refine ii_aload_n 0 dX12_tellsOf_209 rfl ?_
    refine ii_get (C := RX12) (T := TX12) (N := 25) (ci := 12) izX12 0 rfl rfl 10 (by decide) kX12_29 rfl dX12_tellsOf_210 ?_
    refine ii_iconst dX12_tellsOf_213 kc0 ?_
    refine ii_lald h 3 1 rfl rfl dX12_tellsOf_214 (fun t_29 h => ?_)
    cases h
    exact hQ _ _ dX12_tellsOf_215
  · skip
    refine ii_iload_n 2 dX12_tellsOf_4 rfl ?_
    refine ii_aload_n 0 dX12_tellsOf_5 rfl ?_
    refine ii_get (C := RX12) (T := TX12) (N := 25) (ci := 12) izX12 0 rfl rfl 5 (by decide) kX12_94 rfl dX12_tellsOf_6 ?_
    refine ii_icmp_ge (tgt := 209) h dX12_tellsOf_9 (by decide) (fun h => ?_) (fun h => ?_)
    · skip
      refine ii_lv [0] rfl ?_
      cases h
      exact hx_1 (s_1.1, s_1.2.1, s_1.2.2) (hr_1 _ rfl)
    · skip
      refine ii_aload_n 0 dX12_tellsOf_12 rfl ?_
      refine ii_get (C := RX12) (T := TX12) (N := 25) (ci := 12) izX12 0 rfl rfl 6 (by decide) kX12_20 rfl dX12_tellsOf_13 ?_
      refine ii_iload_n 2 dX12_tellsOf_16 rfl ?_
      refine ii_iald h 2 0 rfl rfl dX12_tellsOf_17 (fun t_3 h => ?_)
      refine ii_istore_n (lv' := [(3, .int t_3), (0, .ref a_this), (1, .int s_1.1), (2, .int s_1.2.1)]) dX12_tellsOf_18 rfl (by decide) rfl ?_
      refine ii_iload_n 0 dX12_tellsOf_19 rfl ?_
      refine ii_jn h (fun j_4 => [(a_this, .inr (12, [.ref a_this_st, .ref a_this_images, .ref a_this_isKept, .long v_this_above, .long v_this_below, .int v_this_steps, .ref a_this_step, .ref a_this_with, .int v_this_waiting, .ref a_this_waits, .ref a_this_value, .ref a_this_given, .ref a_this_net, .ref a_this_together, .ref a_this_most, .ref a_this_owes, .ref a_this_can, .ref a_this_row, .ref a_this_before, .ref a_this_to, .ref a_this_on, .ref a_this_load, .ref a_this_lead, .ref a_this_bestLead, .ref a_this_silver])), (a_this_given, .inl (cJ, 5, .inr (.inl v_this_given))), (a_this_step, .inl (cI, 70, .inl v_this_step)), (a_this_value, .inl (cJ, 70, .inr (.inl j_4.2))), (a_this_with, .inl (cI, 70, .inl v_this_with))]) (fun j_4 => [(0, .ref a_this), (1, .int j_4.1), (2, .int s_1.2.1)]) 203 (fun j_4 => []) (fun j_4 h => ?_) (fun j_4 h hjj_4 => ?_)
      · skip
        refine ii_iinc (fun x_28 => [(2, .int x_28), (0, .ref a_this), (1, .int j_4.1)]) h 2 dX12_tellsOf_203 rfl kc1 (by decide) (fun _ => rfl) (fun x_28 h => ?_)
        refine ii_goto (tgt := 4) dX12_tellsOf_206 (by decide) ?_
        refine ii_lv [1, 2, 0] rfl ?_
        cases h
        exact hb_1 (j_4.1, x_28, j_4.2) rfl
      · skip
        refine ii_jf (r := j_4) (J_X12_tellsOf_4_28 t_3 v_this_with s_1 v_this_given) (fun v_5 => [(a_this, .inr (12, [.ref a_this_st, .ref a_this_images, .ref a_this_isKept, .long v_this_above, .long v_this_below, .int v_this_steps, .ref a_this_step, .ref a_this_with, .int v_this_waiting, .ref a_this_waits, .ref a_this_value, .ref a_this_given, .ref a_this_net, .ref a_this_together, .ref a_this_most, .ref a_this_owes, .ref a_this_can, .ref a_this_row, .ref a_this_before, .ref a_this_to, .ref a_this_on, .ref a_this_load, .ref a_this_lead, .ref a_this_bestLead, .ref a_this_silver])), (a_this_given, .inl (cJ, 5, .inr (.inl v_this_given))), (a_this_step, .inl (cI, 70, .inl v_this_step)), (a_this_value, .inl (cJ, 70, .inr (.inl s_1.2.2))), (a_this_with, .inl (cI, 70, .inl v_this_with))]) (fun v_5 => [(0, .ref a_this), (1, .int s_1.1), (2, .int s_1.2.1), (3, .int t_3)]) 28 (fun v_5 => []) (fun v_5 h => ?_) (fun hjv_5 => ?_)
        · skip
          refine ii_aload_n 0 dX12_tellsOf_28 rfl ?_
          refine ii_get (C := RX12) (T := TX12) (N := 25) (ci := 12) izX12 0 rfl rfl 10 (by decide) kX12_29 rfl dX12_tellsOf_29 ?_
          refine ii_iload_n 1 dX12_tellsOf_32 rfl ?_
          refine ii_iload_n 3 dX12_tellsOf_33 rfl ?_
          refine ii_jn h (fun j_6 => [(a_this, .inr (12, [.ref a_this_st, .ref a_this_images, .ref a_this_isKept, .long v_this_above, .long v_this_below, .int v_this_steps, .ref a_this_step, .ref a_this_with, .int v_this_waiting, .ref a_this_waits, .ref a_this_value, .ref a_this_given, .ref a_this_net, .ref a_this_together, .ref a_this_most, .ref a_this_owes, .ref a_this_can, .ref a_this_row, .ref a_this_before, .ref a_this_to, .ref a_this_on, .ref a_this_load, .ref a_this_lead, .ref a_this_bestLead, .ref a_this_silver])), (a_this_given, .inl (cJ, 5, .inr (.inl v_this_given))), (a_this_step, .inl (cI, 70, .inl v_this_step)), (a_this_value, .inl (cJ, 70, .inr (.inl s_1.2.2))), (a_this_with, .inl (cI, 70, .inl v_this_with))]) (fun j_6 => [(0, .ref a_this), (1, .int s_1.1), (2, .int s_1.2.1)]) 58 (fun j_6 => [.long j_6, .int s_1.1, .ref a_this_value]) (fun j_6 h => ?_) (fun j_6 h hjj_6 => ?_)
          · skip
            refine ii_last (fun g_10 => [(a_this, .inr (12, [.ref a_this_st, .ref a_this_images, .ref a_this_isKept, .long v_this_above, .long v_this_below, .int v_this_steps, .ref a_this_step, .ref a_this_with, .int v_this_waiting, .ref a_this_waits, .ref a_this_value, .ref a_this_given, .ref a_this_net, .ref a_this_together, .ref a_this_most, .ref a_this_owes, .ref a_this_can, .ref a_this_row, .ref a_this_before, .ref a_this_to, .ref a_this_on, .ref a_this_load, .ref a_this_lead, .ref a_this_bestLead, .ref a_this_silver])), (a_this_given, .inl (cJ, 5, .inr (.inl v_this_given))), (a_this_step, .inl (cI, 70, .inl v_this_step)), (a_this_value, .inl (cJ, 70, .inr (.inl g_10))), (a_this_with, .inl (cI, 70, .inl v_this_with))]) h 3 1 rfl rfl dX12_tellsOf_58 (fun _ => rfl) (fun g_10 h => ?_)
            refine ii_iinc (fun x_11 => [(1, .int x_11), (0, .ref a_this), (2, .int s_1.2.1)]) h 1 dX12_tellsOf_59 rfl kc1 (by decide) (fun _ => rfl) (fun x_11 h => ?_)
            refine ii_goto (tgt := 203) dX12_tellsOf_62 (by decide) ?_
            refine ii_lv [1, 0, 2] rfl ?_
            cases h
            exact hjj_4
          · skip
            refine ii_if_ne (tgt := 47) h dX12_tellsOf_34 (by decide) (fun h => ?_) (fun h => ?_)
            · skip
              refine ii_aload_n 0 dX12_tellsOf_47 rfl ?_
              refine ii_get (C := RX12) (T := TX12) (N := 25) (ci := 12) izX12 0 rfl rfl 11 (by decide) kX12_33 rfl dX12_tellsOf_48 ?_
              refine ii_aload_n 0 dX12_tellsOf_51 rfl ?_
              refine ii_get (C := RX12) (T := TX12) (N := 25) (ci := 12) izX12 0 rfl rfl 7 (by decide) kX12_23 rfl dX12_tellsOf_52 ?_
              refine ii_iload_n 2 dX12_tellsOf_55 rfl ?_
              refine ii_iald h 4 0 rfl rfl dX12_tellsOf_56 (fun t_7 h => ?_)
              refine ii_lald h 1 1 rfl rfl dX12_tellsOf_57 (fun t_8 h => ?_)
              refine ii_lv [0, 1, 2] rfl ?_
              cases h
              exact hjj_6
            · skip
              refine ii_aload_n 0 dX12_tellsOf_37 rfl ?_
              refine ii_get (C := RX12) (T := TX12) (N := 25) (ci := 12) izX12 0 rfl rfl 7 (by decide) kX12_23 rfl dX12_tellsOf_38 ?_
              refine ii_iload_n 2 dX12_tellsOf_41 rfl ?_
              refine ii_iald h 4 0 rfl rfl dX12_tellsOf_42 (fun t_9 h => ?_)
              refine ii_i2l dX12_tellsOf_43 ?_
              refine ii_goto (tgt := 58) dX12_tellsOf_44 (by decide) ?_
              refine ii_lv [0, 1, 2] rfl ?_
              cases h
              exact hjj_6
        · skip
          refine ii_if_eq (tgt := 28) h dX12_tellsOf_20 (by decide) (fun h => ?_) (fun h => ?_)
          · skip
            refine ii_lv [1, 2, 3, 0] rfl ?_
            exact hjv_5 () h
          · skip
            refine ii_iload_n 0 dX12_tellsOf_23 rfl ?_
            refine ii_iconst dX12_tellsOf_24 kc1 ?_
            refine ii_icmp_ne (tgt := 65) h dX12_tellsOf_25 (by decide) (fun h => ?_) (fun h => ?_)
            · skip
              refine ii_iload_n 0 dX12_tellsOf_65 rfl ?_
              refine ii_iconst dX12_tellsOf_66 kc3 ?_
              refine ii_icmp_ne (tgt := 90) h dX12_tellsOf_67 (by decide) (fun h => ?_) (fun h => ?_)
              · skip
                refine ii_iload_n 0 dX12_tellsOf_90 rfl ?_
                refine ii_iconst dX12_tellsOf_91 kc2 ?_
                refine ii_icmp_ne (tgt := 124) h dX12_tellsOf_92 (by decide) (fun h => ?_) (fun h => ?_)
                · skip
                  refine ii_iload_n 0 dX12_tellsOf_124 rfl ?_
                  refine ii_bipush dX12_tellsOf_125 kb15 ?_
                  refine ii_icmp_ne (tgt := 174) h dX12_tellsOf_127 (by decide) (fun h => ?_) (fun h => ?_)
                  · skip
                    refine ii_iinc (fun x_12 => [(1, .int x_12), (3, .int t_3), (0, .ref a_this), (2, .int s_1.2.1)]) h 2 dX12_tellsOf_174 rfl kcm1 (by decide) (fun _ => rfl) (fun x_12 h => ?_)
                    refine ii_aload_n 2 dX12_tellsOf_177 rfl ?_
                    refine ii_get (C := RX12) (T := TX12) (N := 25) (ci := 12) izX12 0 rfl rfl 10 (by decide) kX12_29 rfl dX12_tellsOf_178 ?_
                    refine ii_iload_n 0 dX12_tellsOf_181 rfl ?_
                    refine ii_iconst dX12_tellsOf_182 kc1 ?_
                    refine ii_isub dX12_tellsOf_183 ?_
                    refine ii_iload_n 1 dX12_tellsOf_184 rfl ?_
                    refine ii_aload_n 2 dX12_tellsOf_185 rfl ?_
                    refine ii_get (C := RX12) (T := TX12) (N := 25) (ci := 12) izX12 0 rfl rfl 10 (by decide) kX12_29 rfl dX12_tellsOf_186 ?_
                    refine ii_iload_n 0 dX12_tellsOf_189 rfl ?_
                    refine ii_iconst dX12_tellsOf_190 kc1 ?_
                    refine ii_isub dX12_tellsOf_191 ?_
                    refine ii_lald h 3 1 rfl rfl dX12_tellsOf_192 (fun t_13 h => ?_)
                    refine ii_aload_n 2 dX12_tellsOf_193 rfl ?_
                    refine ii_get (C := RX12) (T := TX12) (N := 25) (ci := 12) izX12 0 rfl rfl 10 (by decide) kX12_29 rfl dX12_tellsOf_194 ?_
                    refine ii_iload_n 0 dX12_tellsOf_197 rfl ?_
                    refine ii_lald h 3 1 rfl rfl dX12_tellsOf_198 (fun t_14 h => ?_)
                    obtain ⟨c_15, hc_15, h⟩ := bnd h
                    refine ii_callSl (As := [.int t_3, .long t_13, .long t_14]) (ws' := [(a_this, .inr (12, [.ref a_this_st, .ref a_this_images, .ref a_this_isKept, .long v_this_above, .long v_this_below, .int v_this_steps, .ref a_this_step, .ref a_this_with, .int v_this_waiting, .ref a_this_waits, .ref a_this_value, .ref a_this_given, .ref a_this_net, .ref a_this_together, .ref a_this_most, .ref a_this_owes, .ref a_this_can, .ref a_this_row, .ref a_this_before, .ref a_this_to, .ref a_this_on, .ref a_this_load, .ref a_this_lead, .ref a_this_bestLead, .ref a_this_silver])), (a_this_given, .inl (cJ, 5, .inr (.inl v_this_given))), (a_this_step, .inl (cI, 70, .inl v_this_step)), (a_this_value, .inl (cJ, 70, .inr (.inl s_1.2.2))), (a_this_with, .inl (cI, 70, .inl v_this_with))]) (st := [.int (x_12 - (1 : Int32)), .ref a_this_value]) (c_X12_twoOf l D cI cJ cZ cH t_3 t_13 t_14 hc_15) gzX12_133 rfl rfl rfl eS_X12_twoOf ⟨Nat.le_of_ble_eq_true rfl, Nat.le_of_ble_eq_true rfl⟩ rfl [] rfl rfl rfl rfl rfl (Nat.le_of_ble_eq_true rfl) (Nat.le_refl _) (Nat.le_refl _) rfl dX12_tellsOf_199 ?_
                    refine ii_last (fun g_16 => [(a_this, .inr (12, [.ref a_this_st, .ref a_this_images, .ref a_this_isKept, .long v_this_above, .long v_this_below, .int v_this_steps, .ref a_this_step, .ref a_this_with, .int v_this_waiting, .ref a_this_waits, .ref a_this_value, .ref a_this_given, .ref a_this_net, .ref a_this_together, .ref a_this_most, .ref a_this_owes, .ref a_this_can, .ref a_this_row, .ref a_this_before, .ref a_this_to, .ref a_this_on, .ref a_this_load, .ref a_this_lead, .ref a_this_bestLead, .ref a_this_silver])), (a_this_given, .inl (cJ, 5, .inr (.inl v_this_given))), (a_this_step, .inl (cI, 70, .inl v_this_step)), (a_this_value, .inl (cJ, 70, .inr (.inl g_16))), (a_this_with, .inl (cI, 70, .inl v_this_with))]) h 3 1 rfl rfl dX12_tellsOf_202 (fun _ => rfl) (fun g_16 h => ?_)
                    refine ii_lv [2, 0, 3] rfl ?_
                    cases h
                    exact hjj_4
                  · skip
                    refine ii_iinc (fun x_17 => [(1, .int x_17), (3, .int t_3), (0, .ref a_this), (2, .int s_1.2.1)]) h 2 dX12_tellsOf_130 rfl kcm2 (by decide) (fun _ => rfl) (fun x_17 h => ?_)
                    refine ii_aload_n 2 dX12_tellsOf_133 rfl ?_
                    refine ii_get (C := RX12) (T := TX12) (N := 25) (ci := 12) izX12 0 rfl rfl 10 (by decide) kX12_29 rfl dX12_tellsOf_134 ?_
                    refine ii_iload_n 0 dX12_tellsOf_137 rfl ?_
                    refine ii_iconst dX12_tellsOf_138 kc1 ?_
                    refine ii_isub dX12_tellsOf_139 ?_
                    refine ii_aload_n 2 dX12_tellsOf_140 rfl ?_
                    refine ii_get (C := RX12) (T := TX12) (N := 25) (ci := 12) izX12 0 rfl rfl 10 (by decide) kX12_29 rfl dX12_tellsOf_141 ?_
                    refine ii_iload_n 0 dX12_tellsOf_144 rfl ?_
                    refine ii_iconst dX12_tellsOf_145 kc1 ?_
                    refine ii_isub dX12_tellsOf_146 ?_
                    refine ii_lald h 3 1 rfl rfl dX12_tellsOf_147 (fun t_18 h => ?_)
                    refine ii_lconst dX12_tellsOf_148 kl0 ?_
                    refine ii_jn h (fun j_19 => [(a_this, .inr (12, [.ref a_this_st, .ref a_this_images, .ref a_this_isKept, .long v_this_above, .long v_this_below, .int v_this_steps, .ref a_this_step, .ref a_this_with, .int v_this_waiting, .ref a_this_waits, .ref a_this_value, .ref a_this_given, .ref a_this_net, .ref a_this_together, .ref a_this_most, .ref a_this_owes, .ref a_this_can, .ref a_this_row, .ref a_this_before, .ref a_this_to, .ref a_this_on, .ref a_this_load, .ref a_this_lead, .ref a_this_bestLead, .ref a_this_silver])), (a_this_given, .inl (cJ, 5, .inr (.inl v_this_given))), (a_this_step, .inl (cI, 70, .inl v_this_step)), (a_this_value, .inl (cJ, 70, .inr (.inl s_1.2.2))), (a_this_with, .inl (cI, 70, .inl v_this_with))]) (fun j_19 => [(0, .ref a_this), (1, .int x_17), (2, .int s_1.2.1)]) 170 (fun j_19 => [.long j_19, .int (x_17 - (1 : Int32)), .ref a_this_value]) (fun j_19 h => ?_) (fun j_19 h hjj_19 => ?_)
                    · skip
                      refine ii_last (fun g_22 => [(a_this, .inr (12, [.ref a_this_st, .ref a_this_images, .ref a_this_isKept, .long v_this_above, .long v_this_below, .int v_this_steps, .ref a_this_step, .ref a_this_with, .int v_this_waiting, .ref a_this_waits, .ref a_this_value, .ref a_this_given, .ref a_this_net, .ref a_this_together, .ref a_this_most, .ref a_this_owes, .ref a_this_can, .ref a_this_row, .ref a_this_before, .ref a_this_to, .ref a_this_on, .ref a_this_load, .ref a_this_lead, .ref a_this_bestLead, .ref a_this_silver])), (a_this_given, .inl (cJ, 5, .inr (.inl v_this_given))), (a_this_step, .inl (cI, 70, .inl v_this_step)), (a_this_value, .inl (cJ, 70, .inr (.inl g_22))), (a_this_with, .inl (cI, 70, .inl v_this_with))]) h 3 1 rfl rfl dX12_tellsOf_170 (fun _ => rfl) (fun g_22 h => ?_)
                      refine ii_goto (tgt := 203) dX12_tellsOf_171 (by decide) ?_
                      cases h
                      exact hjj_4
                    · skip
                      refine ii_lcmp_eq (tgt := 162) h dX12_tellsOf_149 dX12_tellsOf_150 (by decide) (fun h => ?_) (fun h => ?_)
                      · skip
                        refine ii_aload_n 2 dX12_tellsOf_162 rfl ?_
                        refine ii_get (C := RX12) (T := TX12) (N := 25) (ci := 12) izX12 0 rfl rfl 10 (by decide) kX12_29 rfl dX12_tellsOf_163 ?_
                        refine ii_iload_n 0 dX12_tellsOf_166 rfl ?_
                        refine ii_iconst dX12_tellsOf_167 kc1 ?_
                        refine ii_iadd dX12_tellsOf_168 ?_
                        refine ii_lald h 3 1 rfl rfl dX12_tellsOf_169 (fun t_20 h => ?_)
                        refine ii_lv [2, 0, 3] rfl ?_
                        cases h
                        exact hjj_19
                      · skip
                        refine ii_aload_n 2 dX12_tellsOf_153 rfl ?_
                        refine ii_get (C := RX12) (T := TX12) (N := 25) (ci := 12) izX12 0 rfl rfl 10 (by decide) kX12_29 rfl dX12_tellsOf_154 ?_
                        refine ii_iload_n 0 dX12_tellsOf_157 rfl ?_
                        refine ii_lald h 3 1 rfl rfl dX12_tellsOf_158 (fun t_21 h => ?_)
                        refine ii_goto (tgt := 170) dX12_tellsOf_159 (by decide) ?_
                        refine ii_lv [2, 0, 3] rfl ?_
                        cases h
                        exact hjj_19
                · skip
                  refine ii_aload_n 1 dX12_tellsOf_95 rfl ?_
                  refine ii_get (C := RX12) (T := TX12) (N := 25) (ci := 12) izX12 0 rfl rfl 10 (by decide) kX12_29 rfl dX12_tellsOf_96 ?_
                  refine ii_iload_n 2 dX12_tellsOf_99 rfl ?_
                  refine ii_iconst dX12_tellsOf_100 kc1 ?_
                  refine ii_isub dX12_tellsOf_101 ?_
                  refine ii_aload_n 1 dX12_tellsOf_102 rfl ?_
                  refine ii_get (C := RX12) (T := TX12) (N := 25) (ci := 12) izX12 0 rfl rfl 10 (by decide) kX12_29 rfl dX12_tellsOf_103 ?_
                  refine ii_iload_n 2 dX12_tellsOf_106 rfl ?_
                  refine ii_iconst dX12_tellsOf_107 kc1 ?_
                  refine ii_isub dX12_tellsOf_108 ?_
                  refine ii_lald h 3 1 rfl rfl dX12_tellsOf_109 (fun t_23 h => ?_)
                  refine ii_lconst dX12_tellsOf_110 kl0 ?_
                  refine ii_jn h (fun j_24 => [(a_this, .inr (12, [.ref a_this_st, .ref a_this_images, .ref a_this_isKept, .long v_this_above, .long v_this_below, .int v_this_steps, .ref a_this_step, .ref a_this_with, .int v_this_waiting, .ref a_this_waits, .ref a_this_value, .ref a_this_given, .ref a_this_net, .ref a_this_together, .ref a_this_most, .ref a_this_owes, .ref a_this_can, .ref a_this_row, .ref a_this_before, .ref a_this_to, .ref a_this_on, .ref a_this_load, .ref a_this_lead, .ref a_this_bestLead, .ref a_this_silver])), (a_this_given, .inl (cJ, 5, .inr (.inl v_this_given))), (a_this_step, .inl (cI, 70, .inl v_this_step)), (a_this_value, .inl (cJ, 70, .inr (.inl s_1.2.2))), (a_this_with, .inl (cI, 70, .inl v_this_with))]) (fun j_24 => [(0, .ref a_this), (1, .int s_1.1), (2, .int s_1.2.1)]) 120 (fun j_24 => [.long j_24, .int (s_1.1 - (1 : Int32)), .ref a_this_value]) (fun j_24 h => ?_) (fun j_24 h hjj_24 => ?_)
                  · skip
                    refine ii_last (fun g_25 => [(a_this, .inr (12, [.ref a_this_st, .ref a_this_images, .ref a_this_isKept, .long v_this_above, .long v_this_below, .int v_this_steps, .ref a_this_step, .ref a_this_with, .int v_this_waiting, .ref a_this_waits, .ref a_this_value, .ref a_this_given, .ref a_this_net, .ref a_this_together, .ref a_this_most, .ref a_this_owes, .ref a_this_can, .ref a_this_row, .ref a_this_before, .ref a_this_to, .ref a_this_on, .ref a_this_load, .ref a_this_lead, .ref a_this_bestLead, .ref a_this_silver])), (a_this_given, .inl (cJ, 5, .inr (.inl v_this_given))), (a_this_step, .inl (cI, 70, .inl v_this_step)), (a_this_value, .inl (cJ, 70, .inr (.inl g_25))), (a_this_with, .inl (cI, 70, .inl v_this_with))]) h 3 1 rfl rfl dX12_tellsOf_120 (fun _ => rfl) (fun g_25 h => ?_)
                    refine ii_goto (tgt := 203) dX12_tellsOf_121 (by decide) ?_
                    cases h
                    exact hjj_4
                  · skip
                    refine ii_lcmp_ne (tgt := 119) h dX12_tellsOf_111 dX12_tellsOf_112 (by decide) (fun h => ?_) (fun h => ?_)
                    · skip
                      refine ii_lconst dX12_tellsOf_119 kl0 ?_
                      refine ii_lv [1, 2, 3] rfl ?_
                      cases h
                      exact hjj_24
                    · skip
                      refine ii_lconst dX12_tellsOf_115 kl1 ?_
                      refine ii_goto (tgt := 120) dX12_tellsOf_116 (by decide) ?_
                      refine ii_lv [1, 2, 3] rfl ?_
                      cases h
                      exact hjj_24
              · skip
                refine ii_aload_n 1 dX12_tellsOf_70 rfl ?_
                refine ii_get (C := RX12) (T := TX12) (N := 25) (ci := 12) izX12 0 rfl rfl 10 (by decide) kX12_29 rfl dX12_tellsOf_71 ?_
                refine ii_iload_n 2 dX12_tellsOf_74 rfl ?_
                refine ii_iconst dX12_tellsOf_75 kc1 ?_
                refine ii_isub dX12_tellsOf_76 ?_
                refine ii_aload_n 1 dX12_tellsOf_77 rfl ?_
                refine ii_get (C := RX12) (T := TX12) (N := 25) (ci := 12) izX12 0 rfl rfl 10 (by decide) kX12_29 rfl dX12_tellsOf_78 ?_
                refine ii_iload_n 2 dX12_tellsOf_81 rfl ?_
                refine ii_iconst dX12_tellsOf_82 kc1 ?_
                refine ii_isub dX12_tellsOf_83 ?_
                refine ii_lald h 3 1 rfl rfl dX12_tellsOf_84 (fun t_26 h => ?_)
                refine ii_lneg dX12_tellsOf_85 ?_
                refine ii_last (fun g_27 => [(a_this, .inr (12, [.ref a_this_st, .ref a_this_images, .ref a_this_isKept, .long v_this_above, .long v_this_below, .int v_this_steps, .ref a_this_step, .ref a_this_with, .int v_this_waiting, .ref a_this_waits, .ref a_this_value, .ref a_this_given, .ref a_this_net, .ref a_this_together, .ref a_this_most, .ref a_this_owes, .ref a_this_can, .ref a_this_row, .ref a_this_before, .ref a_this_to, .ref a_this_on, .ref a_this_load, .ref a_this_lead, .ref a_this_bestLead, .ref a_this_silver])), (a_this_given, .inl (cJ, 5, .inr (.inl v_this_given))), (a_this_step, .inl (cI, 70, .inl v_this_step)), (a_this_value, .inl (cJ, 70, .inr (.inl g_27))), (a_this_with, .inl (cI, 70, .inl v_this_with))]) h 3 1 rfl rfl dX12_tellsOf_86 (fun _ => rfl) (fun g_27 h => ?_)
                refine ii_goto (tgt := 203) dX12_tellsOf_87 (by decide) ?_
                refine ii_lv [1, 2, 3] rfl ?_
                cases h
                exact hjj_4
            · skip
              refine ii_lv [1, 2, 3, 0] rfl ?_
              exact hjv_5 () h
set_option maxHeartbeats 4000000 in
set_option maxRecDepth 100000 in
theorem c_X12_gives (l : Launch) (D : va_G) (cI cJ cZ cH : ClassId) (a_this a_this_before a_this_bestLead a_this_can a_this_given a_this_images a_this_isKept a_this_lead a_this_load a_this_most a_this_net a_this_on a_this_owes a_this_row a_this_silver a_this_st a_this_step a_this_to a_this_together a_this_value a_this_waits a_this_with : Nat) (v_this_above : Int64) (v_this_below : Int64) (v_this_given : Nat → Int64) (v_this_steps : Int32) (v_this_waiting : Int32) (p0 : Int32) (p1 : Int32) (p2 : Int32) (p3 : Int32) (p4 : Int64) {res : (Nat → Int64)} (h : F_X12_gives v_this_given p0 p1 p2 p3 p4 = some res) : CTv l yX12_gives wzX12_gives { frames := 0, cells := 0, slots := 0, locals := 0 } D [(cI, .int), (cJ, .long), (cZ, .boolean), (cH, .object "TinHouse$House")] [.ref a_this, .int p0, .int p1, .int p2, .int p3, .long p4] [(a_this, .inr (12, [.ref a_this_st, .ref a_this_images, .ref a_this_isKept, .long v_this_above, .long v_this_below, .int v_this_steps, .ref a_this_step, .ref a_this_with, .int v_this_waiting, .ref a_this_waits, .ref a_this_value, .ref a_this_given, .ref a_this_net, .ref a_this_together, .ref a_this_most, .ref a_this_owes, .ref a_this_can, .ref a_this_row, .ref a_this_before, .ref a_this_to, .ref a_this_on, .ref a_this_load, .ref a_this_lead, .ref a_this_bestLead, .ref a_this_silver])), (a_this_given, .inl (cJ, 5, .inr (.inl v_this_given)))] [(a_this, .inr (12, [.ref a_this_st, .ref a_this_images, .ref a_this_isKept, .long v_this_above, .long v_this_below, .int v_this_steps, .ref a_this_step, .ref a_this_with, .int v_this_waiting, .ref a_this_waits, .ref a_this_value, .ref a_this_given, .ref a_this_net, .ref a_this_together, .ref a_this_most, .ref a_this_owes, .ref a_this_can, .ref a_this_row, .ref a_this_before, .ref a_this_to, .ref a_this_on, .ref a_this_load, .ref a_this_lead, .ref a_this_bestLead, .ref a_this_silver])), (a_this_given, .inl (cJ, 5, .inr (.inl res)))] := by
  unfold F_X12_gives at h
  refine ii_metV (own := RX12) (lv0 := [(0, .ref a_this), (1, .int p0), (2, .int p1), (3, .int p2), (4, .int p3), (5, .long p4)]) (by decide) rfl rfl rfl (Nat.le_of_ble_eq_true rfl) (fun {p e s m args below meth c A Q} hQ => ?_)
  refine ii_aload_n 0 dX12_gives_0 rfl ?_
  refine ii_get (C := RX12) (T := TX12) (N := 25) (ci := 12) izX12 0 rfl rfl 11 (by decide) kX12_33 rfl dX12_gives_1 ?_
  refine ii_iconst dX12_gives_4 kc0 ?_
  refine ii_iload_n 1 dX12_gives_5 rfl ?_
  refine ii_i2l dX12_gives_6 ?_
  refine ii_last (fun g_1 => [(a_this, .inr (12, [.ref a_this_st, .ref a_this_images, .ref a_this_isKept, .long v_this_above, .long v_this_below, .int v_this_steps, .ref a_this_step, .ref a_this_with, .int v_this_waiting, .ref a_this_waits, .ref a_this_value, .ref a_this_given, .ref a_this_net, .ref a_this_together, .ref a_this_most, .ref a_this_owes, .ref a_this_can, .ref a_this_row, .ref a_this_before, .ref a_this_to, .ref a_this_on, .ref a_this_load, .ref a_this_lead, .ref a_this_bestLead, .ref a_this_silver])), (a_this_given, .inl (cJ, 5, .inr (.inl g_1)))]) h 1 1 rfl rfl dX12_gives_7 (fun _ => rfl) (fun g_1 h => ?_)
  refine ii_aload_n 0 dX12_gives_8 rfl ?_
  refine ii_get (C := RX12) (T := TX12) (N := 25) (ci := 12) izX12 0 rfl rfl 11 (by decide) kX12_33 rfl dX12_gives_9 ?_
  refine ii_iconst dX12_gives_12 kc1 ?_
  refine ii_iload_n 2 dX12_gives_13 rfl ?_
  refine ii_i2l dX12_gives_14 ?_
  refine ii_last (fun g_2 => [(a_this, .inr (12, [.ref a_this_st, .ref a_this_images, .ref a_this_isKept, .long v_this_above, .long v_this_below, .int v_this_steps, .ref a_this_step, .ref a_this_with, .int v_this_waiting, .ref a_this_waits, .ref a_this_value, .ref a_this_given, .ref a_this_net, .ref a_this_together, .ref a_this_most, .ref a_this_owes, .ref a_this_can, .ref a_this_row, .ref a_this_before, .ref a_this_to, .ref a_this_on, .ref a_this_load, .ref a_this_lead, .ref a_this_bestLead, .ref a_this_silver])), (a_this_given, .inl (cJ, 5, .inr (.inl g_2)))]) h 1 1 rfl rfl dX12_gives_15 (fun _ => rfl) (fun g_2 h => ?_)
  refine ii_aload_n 0 dX12_gives_16 rfl ?_
  refine ii_get (C := RX12) (T := TX12) (N := 25) (ci := 12) izX12 0 rfl rfl 11 (by decide) kX12_33 rfl dX12_gives_17 ?_
  refine ii_iconst dX12_gives_20 kc2 ?_
  refine ii_iload_n 3 dX12_gives_21 rfl ?_
  refine ii_i2l dX12_gives_22 ?_
  refine ii_last (fun g_3 => [(a_this, .inr (12, [.ref a_this_st, .ref a_this_images, .ref a_this_isKept, .long v_this_above, .long v_this_below, .int v_this_steps, .ref a_this_step, .ref a_this_with, .int v_this_waiting, .ref a_this_waits, .ref a_this_value, .ref a_this_given, .ref a_this_net, .ref a_this_together, .ref a_this_most, .ref a_this_owes, .ref a_this_can, .ref a_this_row, .ref a_this_before, .ref a_this_to, .ref a_this_on, .ref a_this_load, .ref a_this_lead, .ref a_this_bestLead, .ref a_this_silver])), (a_this_given, .inl (cJ, 5, .inr (.inl g_3)))]) h 1 1 rfl rfl dX12_gives_23 (fun _ => rfl) (fun g_3 h => ?_)
  refine ii_aload_n 0 dX12_gives_24 rfl ?_
  refine ii_get (C := RX12) (T := TX12) (N := 25) (ci := 12) izX12 0 rfl rfl 11 (by decide) kX12_33 rfl dX12_gives_25 ?_
  refine ii_iconst dX12_gives_28 kc3 ?_
  refine ii_iload 4 dX12_gives_29 rfl ?_
  refine ii_i2l dX12_gives_31 ?_
  refine ii_last (fun g_4 => [(a_this, .inr (12, [.ref a_this_st, .ref a_this_images, .ref a_this_isKept, .long v_this_above, .long v_this_below, .int v_this_steps, .ref a_this_step, .ref a_this_with, .int v_this_waiting, .ref a_this_waits, .ref a_this_value, .ref a_this_given, .ref a_this_net, .ref a_this_together, .ref a_this_most, .ref a_this_owes, .ref a_this_can, .ref a_this_row, .ref a_this_before, .ref a_this_to, .ref a_this_on, .ref a_this_load, .ref a_this_lead, .ref a_this_bestLead, .ref a_this_silver])), (a_this_given, .inl (cJ, 5, .inr (.inl g_4)))]) h 1 1 rfl rfl dX12_gives_32 (fun _ => rfl) (fun g_4 h => ?_)
  refine ii_aload_n 0 dX12_gives_33 rfl ?_
  refine ii_get (C := RX12) (T := TX12) (N := 25) (ci := 12) izX12 0 rfl rfl 11 (by decide) kX12_33 rfl dX12_gives_34 ?_
  refine ii_iconst dX12_gives_37 kc4 ?_
  refine ii_lload 5 dX12_gives_38 rfl ?_
  refine ii_last (fun g_5 => [(a_this, .inr (12, [.ref a_this_st, .ref a_this_images, .ref a_this_isKept, .long v_this_above, .long v_this_below, .int v_this_steps, .ref a_this_step, .ref a_this_with, .int v_this_waiting, .ref a_this_waits, .ref a_this_value, .ref a_this_given, .ref a_this_net, .ref a_this_together, .ref a_this_most, .ref a_this_owes, .ref a_this_can, .ref a_this_row, .ref a_this_before, .ref a_this_to, .ref a_this_on, .ref a_this_load, .ref a_this_lead, .ref a_this_bestLead, .ref a_this_silver])), (a_this_given, .inl (cJ, 5, .inr (.inl g_5)))]) h 1 1 rfl rfl dX12_gives_40 (fun _ => rfl) (fun g_5 h => ?_)
  cases h
  exact hQ _ _ dX12_gives_41
set_option maxHeartbeats 4000000 in
set_option maxRecDepth 100000 in
theorem c_X12_isText (l : Launch) (D : va_G) (cI cJ cZ cH : ClassId) (p0 : Int32) {res : Int32} (h : F_X12_isText p0 = some res) : CTi l yX12_isText wzX12_isText { frames := 1, cells := 0, slots := 0, locals := 25 } D [(cI, .int), (cJ, .long), (cZ, .boolean), (cH, .object "TinHouse$House")] [.int p0] [] res [] := by
  unfold F_X12_isText at h
  refine ii_metZ (own := RX12) (lv0 := [(0, .int p0)]) (by decide) rfl rfl rfl (Nat.le_of_ble_eq_true rfl) (fun {p e s m args below meth c A Q} hQ => ?_)
  refine ii_iload_n 0 dX12_isText_0 rfl ?_
  refine ii_i2l dX12_isText_1 ?_
  refine ii_lconst dX12_isText_2 kl0 ?_
  refine ii_ldc2 (v := 3) dX12_isText_3 kX12_137 ?_
  obtain ⟨c_1, hc_1, h⟩ := bnd h
  refine ii_callSi (As := [.long p0.toInt64, .long (0 : Int64), .long (3 : Int64)]) (ws' := []) (st := []) (c_X12_in l D cI cJ cZ cH p0.toInt64 (0 : Int64) (3 : Int64) hc_1) gzX12_79 rfl rfl rfl eS_X12_in ⟨Nat.le_of_ble_eq_true rfl, Nat.le_of_ble_eq_true rfl⟩ rfl [] rfl rfl rfl rfl rfl (Nat.le_of_ble_eq_true rfl) (Nat.le_refl _) (Nat.le_refl _) rfl dX12_isText_6 ?_
  refine ii_topB h (fun t_2 hz_3 h => ?_)
  cases h
  exact hQ _ _ dX12_isText_9 hz_3
set_option maxHeartbeats 4000000 in
set_option maxRecDepth 100000 in
theorem c_X12_write (l : Launch) (D : va_G) (cI cJ cZ cH : ClassId) (a_this a_this_before a_this_bestLead a_this_can a_this_given a_this_images a_this_isKept a_this_lead a_this_load a_this_most a_this_net a_this_on a_this_owes a_this_row a_this_silver a_this_st a_this_step a_this_to a_this_together a_this_value a_this_waits a_this_with : Nat) (v_this_above : Int64) (v_this_below : Int64) (v_this_st : Nat → Int32) (v_this_steps : Int32) (v_this_waiting : Int32) (p0 : Int32) (p1 : Int32) {res : Int32 × (Nat → Int32)} (h : F_X12_write v_this_st p0 p1 = some res) : CTi l yX12_write wzX12_write { frames := 2, cells := 0, slots := 0, locals := 45 } D [(cI, .int), (cJ, .long), (cZ, .boolean), (cH, .object "TinHouse$House")] [.ref a_this, .int p0, .int p1] [(a_this, .inr (12, [.ref a_this_st, .ref a_this_images, .ref a_this_isKept, .long v_this_above, .long v_this_below, .int v_this_steps, .ref a_this_step, .ref a_this_with, .int v_this_waiting, .ref a_this_waits, .ref a_this_value, .ref a_this_given, .ref a_this_net, .ref a_this_together, .ref a_this_most, .ref a_this_owes, .ref a_this_can, .ref a_this_row, .ref a_this_before, .ref a_this_to, .ref a_this_on, .ref a_this_load, .ref a_this_lead, .ref a_this_bestLead, .ref a_this_silver])), (a_this_st, .inl (cI, 1951, .inl v_this_st))] res.1 [(a_this, .inr (12, [.ref a_this_st, .ref a_this_images, .ref a_this_isKept, .long v_this_above, .long v_this_below, .int v_this_steps, .ref a_this_step, .ref a_this_with, .int v_this_waiting, .ref a_this_waits, .ref a_this_value, .ref a_this_given, .ref a_this_net, .ref a_this_together, .ref a_this_most, .ref a_this_owes, .ref a_this_can, .ref a_this_row, .ref a_this_before, .ref a_this_to, .ref a_this_on, .ref a_this_load, .ref a_this_lead, .ref a_this_bestLead, .ref a_this_silver])), (a_this_st, .inl (cI, 1951, .inl res.2))] := by
  unfold F_X12_write at h
  refine ii_metI (own := RX12) (lv0 := [(0, .ref a_this), (1, .int p0), (2, .int p1)]) (by decide) rfl rfl rfl (Nat.le_of_ble_eq_true rfl) (fun {p e s m args below meth c A Q} hQ => ?_)
  refine ii_iload_n 1 dX12_write_0 rfl ?_
  obtain ⟨c_1, hc_1, h⟩ := bnd h
  refine ii_callSi (As := [.int p0]) (ws' := [(a_this, .inr (12, [.ref a_this_st, .ref a_this_images, .ref a_this_isKept, .long v_this_above, .long v_this_below, .int v_this_steps, .ref a_this_step, .ref a_this_with, .int v_this_waiting, .ref a_this_waits, .ref a_this_value, .ref a_this_given, .ref a_this_net, .ref a_this_together, .ref a_this_most, .ref a_this_owes, .ref a_this_can, .ref a_this_row, .ref a_this_before, .ref a_this_to, .ref a_this_on, .ref a_this_load, .ref a_this_lead, .ref a_this_bestLead, .ref a_this_silver])), (a_this_st, .inl (cI, 1951, .inl v_this_st))]) (st := []) (c_X12_isText l D cI cJ cZ cH p0 hc_1) gzX12_139 rfl rfl rfl eS_X12_isText ⟨Nat.le_of_ble_eq_true rfl, Nat.le_of_ble_eq_true rfl⟩ rfl [] rfl rfl rfl rfl rfl (Nat.le_of_ble_eq_true rfl) (Nat.le_refl _) (Nat.le_refl _) rfl dX12_write_1 ?_
  refine ii_if_eq (tgt := 19) h dX12_write_4 (by decide) (fun h => ?_) (fun h => ?_)
  · skip
    refine ii_bipush dX12_write_19 kbm2 ?_
    cases h
    exact hQ _ _ dX12_write_21
  · skip
    refine ii_iload_n 2 dX12_write_7 rfl ?_
    refine ii_i2l dX12_write_8 ?_
    refine ii_lconst dX12_write_9 kl0 ?_
    refine ii_ldc2 (v := 127) dX12_write_10 kX12_142 ?_
    obtain ⟨c_2, hc_2, h⟩ := bnd h
    refine ii_callSi (As := [.long p1.toInt64, .long (0 : Int64), .long (127 : Int64)]) (ws' := [(a_this, .inr (12, [.ref a_this_st, .ref a_this_images, .ref a_this_isKept, .long v_this_above, .long v_this_below, .int v_this_steps, .ref a_this_step, .ref a_this_with, .int v_this_waiting, .ref a_this_waits, .ref a_this_value, .ref a_this_given, .ref a_this_net, .ref a_this_together, .ref a_this_most, .ref a_this_owes, .ref a_this_can, .ref a_this_row, .ref a_this_before, .ref a_this_to, .ref a_this_on, .ref a_this_load, .ref a_this_lead, .ref a_this_bestLead, .ref a_this_silver])), (a_this_st, .inl (cI, 1951, .inl v_this_st))]) (st := []) (c_X12_in l D cI cJ cZ cH p1.toInt64 (0 : Int64) (127 : Int64) hc_2) gzX12_79 rfl rfl rfl eS_X12_in ⟨Nat.le_of_ble_eq_true rfl, Nat.le_of_ble_eq_true rfl⟩ rfl [] rfl rfl rfl rfl rfl (Nat.le_of_ble_eq_true rfl) (Nat.le_refl _) (Nat.le_refl _) rfl dX12_write_13 ?_
    refine ii_if_ne (tgt := 22) h dX12_write_16 (by decide) (fun h => ?_) (fun h => ?_)
    · skip
      refine ii_bipush dX12_write_22 kb40 ?_
      refine ii_bipush dX12_write_24 kb51 ?_
      refine ii_iload_n 1 dX12_write_26 rfl ?_
      refine ii_imul dX12_write_27 ?_
      refine ii_iadd dX12_write_28 ?_
      refine ii_topI h (fun x_3 h => ?_)
      refine ii_istore_n (lv' := [(3, .int x_3), (0, .ref a_this), (1, .int p0), (2, .int p1)]) dX12_write_29 rfl (by decide) rfl ?_
      refine ii_aload_n 1 dX12_write_30 rfl ?_
      refine ii_get (C := RX12) (T := TX12) (N := 25) (ci := 12) izX12 0 rfl rfl 0 (by decide) kX12_7 rfl dX12_write_31 ?_
      refine ii_iload_n 0 dX12_write_34 rfl ?_
      refine ii_iald h 1 0 rfl rfl dX12_write_35 (fun t_4 h => ?_)
      refine ii_bipush dX12_write_36 kb50 ?_
      refine ii_icmp_ne (tgt := 44) h dX12_write_38 (by decide) (fun h => ?_) (fun h => ?_)
      · skip
        refine ii_aload_n 1 dX12_write_44 rfl ?_
        refine ii_get (C := RX12) (T := TX12) (N := 25) (ci := 12) izX12 0 rfl rfl 0 (by decide) kX12_7 rfl dX12_write_45 ?_
        refine ii_iload_n 0 dX12_write_48 rfl ?_
        refine ii_dup2 dX12_write_49 rfl rfl ?_
        refine ii_iald h 1 0 rfl rfl dX12_write_50 (fun t_5 h => ?_)
        refine ii_iconst dX12_write_51 kc1 ?_
        refine ii_iadd dX12_write_52 ?_
        refine ii_iast (fun g_6 => [(a_this, .inr (12, [.ref a_this_st, .ref a_this_images, .ref a_this_isKept, .long v_this_above, .long v_this_below, .int v_this_steps, .ref a_this_step, .ref a_this_with, .int v_this_waiting, .ref a_this_waits, .ref a_this_value, .ref a_this_given, .ref a_this_net, .ref a_this_together, .ref a_this_most, .ref a_this_owes, .ref a_this_can, .ref a_this_row, .ref a_this_before, .ref a_this_to, .ref a_this_on, .ref a_this_load, .ref a_this_lead, .ref a_this_bestLead, .ref a_this_silver])), (a_this_st, .inl (cI, 1951, .inl g_6))]) h 1 0 rfl rfl dX12_write_53 (fun _ => rfl) (fun g_6 h => ?_)
        refine ii_aload_n 1 dX12_write_54 rfl ?_
        refine ii_get (C := RX12) (T := TX12) (N := 25) (ci := 12) izX12 0 rfl rfl 0 (by decide) kX12_7 rfl dX12_write_55 ?_
        refine ii_iload_n 0 dX12_write_58 rfl ?_
        refine ii_aload_n 1 dX12_write_59 rfl ?_
        refine ii_get (C := RX12) (T := TX12) (N := 25) (ci := 12) izX12 0 rfl rfl 0 (by decide) kX12_7 rfl dX12_write_60 ?_
        refine ii_iload_n 0 dX12_write_63 rfl ?_
        refine ii_iald h 1 0 rfl rfl dX12_write_64 (fun t_7 h => ?_)
        refine ii_iadd dX12_write_65 ?_
        refine ii_iload_n 3 dX12_write_66 rfl ?_
        refine ii_iast (fun g_8 => [(a_this, .inr (12, [.ref a_this_st, .ref a_this_images, .ref a_this_isKept, .long v_this_above, .long v_this_below, .int v_this_steps, .ref a_this_step, .ref a_this_with, .int v_this_waiting, .ref a_this_waits, .ref a_this_value, .ref a_this_given, .ref a_this_net, .ref a_this_together, .ref a_this_most, .ref a_this_owes, .ref a_this_can, .ref a_this_row, .ref a_this_before, .ref a_this_to, .ref a_this_on, .ref a_this_load, .ref a_this_lead, .ref a_this_bestLead, .ref a_this_silver])), (a_this_st, .inl (cI, 1951, .inl g_8))]) h 1 0 rfl rfl dX12_write_67 (fun _ => rfl) (fun g_8 h => ?_)
        refine ii_aload_n 1 dX12_write_68 rfl ?_
        refine ii_get (C := RX12) (T := TX12) (N := 25) (ci := 12) izX12 0 rfl rfl 0 (by decide) kX12_7 rfl dX12_write_69 ?_
        refine ii_iload_n 0 dX12_write_72 rfl ?_
        refine ii_iald h 1 0 rfl rfl dX12_write_73 (fun t_9 h => ?_)
        cases h
        exact hQ _ _ dX12_write_74
      · skip
        refine ii_bipush dX12_write_41 kbm4 ?_
        cases h
        exact hQ _ _ dX12_write_43
    · skip
      refine ii_bipush dX12_write_19 kbm2 ?_
      cases h
      exact hQ _ _ dX12_write_21
set_option maxHeartbeats 4000000 in
set_option maxRecDepth 100000 in
theorem c_X12_erase (l : Launch) (D : va_G) (cI cJ cZ cH : ClassId) (a_this a_this_before a_this_bestLead a_this_can a_this_given a_this_images a_this_isKept a_this_lead a_this_load a_this_most a_this_net a_this_on a_this_owes a_this_row a_this_silver a_this_st a_this_step a_this_to a_this_together a_this_value a_this_waits a_this_with : Nat) (v_this_above : Int64) (v_this_below : Int64) (v_this_st : Nat → Int32) (v_this_steps : Int32) (v_this_waiting : Int32) (p0 : Int32) {res : Int32 × (Nat → Int32)} (h : F_X12_erase v_this_st p0 = some res) : CTi l yX12_erase wzX12_erase { frames := 2, cells := 0, slots := 0, locals := 45 } D [(cI, .int), (cJ, .long), (cZ, .boolean), (cH, .object "TinHouse$House")] [.ref a_this, .int p0] [(a_this, .inr (12, [.ref a_this_st, .ref a_this_images, .ref a_this_isKept, .long v_this_above, .long v_this_below, .int v_this_steps, .ref a_this_step, .ref a_this_with, .int v_this_waiting, .ref a_this_waits, .ref a_this_value, .ref a_this_given, .ref a_this_net, .ref a_this_together, .ref a_this_most, .ref a_this_owes, .ref a_this_can, .ref a_this_row, .ref a_this_before, .ref a_this_to, .ref a_this_on, .ref a_this_load, .ref a_this_lead, .ref a_this_bestLead, .ref a_this_silver])), (a_this_st, .inl (cI, 1951, .inl v_this_st))] res.1 [(a_this, .inr (12, [.ref a_this_st, .ref a_this_images, .ref a_this_isKept, .long v_this_above, .long v_this_below, .int v_this_steps, .ref a_this_step, .ref a_this_with, .int v_this_waiting, .ref a_this_waits, .ref a_this_value, .ref a_this_given, .ref a_this_net, .ref a_this_together, .ref a_this_most, .ref a_this_owes, .ref a_this_can, .ref a_this_row, .ref a_this_before, .ref a_this_to, .ref a_this_on, .ref a_this_load, .ref a_this_lead, .ref a_this_bestLead, .ref a_this_silver])), (a_this_st, .inl (cI, 1951, .inl res.2))] := by
  unfold F_X12_erase at h
  refine ii_metI (own := RX12) (lv0 := [(0, .ref a_this), (1, .int p0)]) (by decide) rfl rfl rfl (Nat.le_of_ble_eq_true rfl) (fun {p e s m args below meth c A Q} hQ => ?_)
  refine ii_iload_n 1 dX12_erase_0 rfl ?_
  obtain ⟨c_1, hc_1, h⟩ := bnd h
  refine ii_callSi (As := [.int p0]) (ws' := [(a_this, .inr (12, [.ref a_this_st, .ref a_this_images, .ref a_this_isKept, .long v_this_above, .long v_this_below, .int v_this_steps, .ref a_this_step, .ref a_this_with, .int v_this_waiting, .ref a_this_waits, .ref a_this_value, .ref a_this_given, .ref a_this_net, .ref a_this_together, .ref a_this_most, .ref a_this_owes, .ref a_this_can, .ref a_this_row, .ref a_this_before, .ref a_this_to, .ref a_this_on, .ref a_this_load, .ref a_this_lead, .ref a_this_bestLead, .ref a_this_silver])), (a_this_st, .inl (cI, 1951, .inl v_this_st))]) (st := []) (c_X12_isText l D cI cJ cZ cH p0 hc_1) gzX12_139 rfl rfl rfl eS_X12_isText ⟨Nat.le_of_ble_eq_true rfl, Nat.le_of_ble_eq_true rfl⟩ rfl [] rfl rfl rfl rfl rfl (Nat.le_of_ble_eq_true rfl) (Nat.le_refl _) (Nat.le_refl _) rfl dX12_erase_1 ?_
  refine ii_jn h (fun j_2 => [(a_this, .inr (12, [.ref a_this_st, .ref a_this_images, .ref a_this_isKept, .long v_this_above, .long v_this_below, .int v_this_steps, .ref a_this_step, .ref a_this_with, .int v_this_waiting, .ref a_this_waits, .ref a_this_value, .ref a_this_given, .ref a_this_net, .ref a_this_together, .ref a_this_most, .ref a_this_owes, .ref a_this_can, .ref a_this_row, .ref a_this_before, .ref a_this_to, .ref a_this_on, .ref a_this_load, .ref a_this_lead, .ref a_this_bestLead, .ref a_this_silver])), (a_this_st, .inl (cI, 1951, .inl j_2.2))]) (fun j_2 => []) 24 (fun j_2 => [.int j_2.1]) (fun j_2 h => ?_) (fun j_2 h hjj_2 => ?_)
  · skip
    cases h
    exact hQ _ _ dX12_erase_24
  · skip
    refine ii_if_eq (tgt := 22) h dX12_erase_4 (by decide) (fun h => ?_) (fun h => ?_)
    · skip
      refine ii_bipush dX12_erase_22 kbm2 ?_
      refine ii_lv [] rfl ?_
      cases h
      exact hjj_2
    · skip
      refine ii_aload_n 0 dX12_erase_7 rfl ?_
      refine ii_bipush dX12_erase_8 kb40 ?_
      refine ii_bipush dX12_erase_10 kb51 ?_
      refine ii_iload_n 1 dX12_erase_12 rfl ?_
      refine ii_imul dX12_erase_13 ?_
      refine ii_iadd dX12_erase_14 ?_
      refine ii_iconst dX12_erase_15 kc0 ?_
      obtain ⟨c_3, hc_3, h⟩ := bnd h
      refine ii_callVi (As := [.int ((40 : Int32) + ((51 : Int32) * p0)), .int (0 : Int32)]) (ws' := [(a_this, .inr (12, [.ref a_this_st, .ref a_this_images, .ref a_this_isKept, .long v_this_above, .long v_this_below, .int v_this_steps, .ref a_this_step, .ref a_this_with, .int v_this_waiting, .ref a_this_waits, .ref a_this_value, .ref a_this_given, .ref a_this_net, .ref a_this_together, .ref a_this_most, .ref a_this_owes, .ref a_this_can, .ref a_this_row, .ref a_this_before, .ref a_this_to, .ref a_this_on, .ref a_this_load, .ref a_this_lead, .ref a_this_bestLead, .ref a_this_silver])), (a_this_st, .inl (cI, 1951, .inl c_3.2))]) (st := []) (c_X12_puts l D cI cJ cZ cH a_this a_this_before a_this_bestLead a_this_can a_this_given a_this_images a_this_isKept a_this_lead a_this_load a_this_most a_this_net a_this_on a_this_owes a_this_row a_this_silver a_this_st a_this_step a_this_to a_this_together a_this_value a_this_waits a_this_with v_this_above v_this_below v_this_st v_this_steps v_this_waiting ((40 : Int32) + ((51 : Int32) * p0)) (0 : Int32) hc_3) gzX12_144 rfl rfl rfl eV_X12_puts ⟨Nat.le_of_ble_eq_true rfl, Nat.le_of_ble_eq_true rfl⟩ rfl 0 rfl rfl [0, 1] rfl rfl rfl rfl rfl (Nat.le_of_ble_eq_true rfl) (Nat.le_refl _) (Nat.le_refl _) rfl dX12_erase_16 ?_
      refine ii_goto (tgt := 24) dX12_erase_19 (by decide) ?_
      refine ii_lv [] rfl ?_
      cases h
      exact hjj_2
set_option maxHeartbeats 4000000 in
set_option maxRecDepth 100000 in
theorem c_X12_fault (l : Launch) (D : va_G) (cI cJ cZ cH : ClassId) (a_this a_this_before a_this_bestLead a_this_can a_this_given a_this_images a_this_isKept a_this_lead a_this_load a_this_most a_this_net a_this_on a_this_owes a_this_row a_this_silver a_this_st a_this_step a_this_to a_this_together a_this_value a_this_waits a_this_with : Nat) (v_this_above : Int64) (v_this_below : Int64) (v_this_st : Nat → Int32) (v_this_step : Nat → Int32) (v_this_steps : Int32) (v_this_waiting : Int32) (v_this_waits : Nat → Int32) (v_this_with : Nat → Int32) (p0 : Int32) {res : Int32 × (Nat → Int32) × Int32 × Int32 × (Nat → Int32) × (Nat → Int32)} (h : F_X12_fault v_this_st v_this_step v_this_steps v_this_waiting v_this_waits v_this_with p0 = some res) : CTi l yX12_fault wzX12_fault { frames := 4, cells := 0, slots := 0, locals := 93 } D [(cI, .int), (cJ, .long), (cZ, .boolean), (cH, .object "TinHouse$House")] [.ref a_this, .int p0] [(a_this, .inr (12, [.ref a_this_st, .ref a_this_images, .ref a_this_isKept, .long v_this_above, .long v_this_below, .int v_this_steps, .ref a_this_step, .ref a_this_with, .int v_this_waiting, .ref a_this_waits, .ref a_this_value, .ref a_this_given, .ref a_this_net, .ref a_this_together, .ref a_this_most, .ref a_this_owes, .ref a_this_can, .ref a_this_row, .ref a_this_before, .ref a_this_to, .ref a_this_on, .ref a_this_load, .ref a_this_lead, .ref a_this_bestLead, .ref a_this_silver])), (a_this_st, .inl (cI, 1951, .inl v_this_st)), (a_this_step, .inl (cI, 70, .inl v_this_step)), (a_this_waits, .inl (cI, 70, .inl v_this_waits)), (a_this_with, .inl (cI, 70, .inl v_this_with))] res.1 [(a_this, .inr (12, [.ref a_this_st, .ref a_this_images, .ref a_this_isKept, .long v_this_above, .long v_this_below, .int res.2.2.1, .ref a_this_step, .ref a_this_with, .int res.2.2.2.1, .ref a_this_waits, .ref a_this_value, .ref a_this_given, .ref a_this_net, .ref a_this_together, .ref a_this_most, .ref a_this_owes, .ref a_this_can, .ref a_this_row, .ref a_this_before, .ref a_this_to, .ref a_this_on, .ref a_this_load, .ref a_this_lead, .ref a_this_bestLead, .ref a_this_silver])), (a_this_st, .inl (cI, 1951, .inl v_this_st)), (a_this_step, .inl (cI, 70, .inl res.2.1)), (a_this_waits, .inl (cI, 70, .inl res.2.2.2.2.1)), (a_this_with, .inl (cI, 70, .inl res.2.2.2.2.2))] := by
  unfold F_X12_fault at h
  refine ii_metI (own := RX12) (lv0 := [(0, .ref a_this), (1, .int p0)]) (by decide) rfl rfl rfl (Nat.le_of_ble_eq_true rfl) (fun {p e s m args below meth c A Q} hQ => ?_)
  refine ii_iload_n 1 dX12_fault_0 rfl ?_
  obtain ⟨c_1, hc_1, h⟩ := bnd h
  refine ii_callSi (As := [.int p0]) (ws' := [(a_this, .inr (12, [.ref a_this_st, .ref a_this_images, .ref a_this_isKept, .long v_this_above, .long v_this_below, .int v_this_steps, .ref a_this_step, .ref a_this_with, .int v_this_waiting, .ref a_this_waits, .ref a_this_value, .ref a_this_given, .ref a_this_net, .ref a_this_together, .ref a_this_most, .ref a_this_owes, .ref a_this_can, .ref a_this_row, .ref a_this_before, .ref a_this_to, .ref a_this_on, .ref a_this_load, .ref a_this_lead, .ref a_this_bestLead, .ref a_this_silver])), (a_this_st, .inl (cI, 1951, .inl v_this_st)), (a_this_step, .inl (cI, 70, .inl v_this_step)), (a_this_waits, .inl (cI, 70, .inl v_this_waits)), (a_this_with, .inl (cI, 70, .inl v_this_with))]) (st := []) (c_X12_isText l D cI cJ cZ cH p0 hc_1) gzX12_139 rfl rfl rfl eS_X12_isText ⟨Nat.le_of_ble_eq_true rfl, Nat.le_of_ble_eq_true rfl⟩ rfl [] rfl rfl rfl rfl rfl (Nat.le_of_ble_eq_true rfl) (Nat.le_refl _) (Nat.le_refl _) rfl dX12_fault_1 ?_
  refine ii_jn h (fun j_2 => [(a_this, .inr (12, [.ref a_this_st, .ref a_this_images, .ref a_this_isKept, .long v_this_above, .long v_this_below, .int j_2.2.2.1, .ref a_this_step, .ref a_this_with, .int j_2.2.2.2.1, .ref a_this_waits, .ref a_this_value, .ref a_this_given, .ref a_this_net, .ref a_this_together, .ref a_this_most, .ref a_this_owes, .ref a_this_can, .ref a_this_row, .ref a_this_before, .ref a_this_to, .ref a_this_on, .ref a_this_load, .ref a_this_lead, .ref a_this_bestLead, .ref a_this_silver])), (a_this_st, .inl (cI, 1951, .inl v_this_st)), (a_this_step, .inl (cI, 70, .inl j_2.2.1)), (a_this_waits, .inl (cI, 70, .inl j_2.2.2.2.2.1)), (a_this_with, .inl (cI, 70, .inl j_2.2.2.2.2.2))]) (fun j_2 => []) 23 (fun j_2 => [.int j_2.1]) (fun j_2 h => ?_) (fun j_2 h hjj_2 => ?_)
  · skip
    cases h
    exact hQ _ _ dX12_fault_23
  · skip
    refine ii_if_eq (tgt := 21) h dX12_fault_4 (by decide) (fun h => ?_) (fun h => ?_)
    · skip
      refine ii_bipush dX12_fault_21 kbm2 ?_
      refine ii_lv [] rfl ?_
      cases h
      exact hjj_2
    · skip
      refine ii_aload_n 0 dX12_fault_7 rfl ?_
      refine ii_bipush dX12_fault_8 kb40 ?_
      refine ii_bipush dX12_fault_10 kb51 ?_
      refine ii_iload_n 1 dX12_fault_12 rfl ?_
      refine ii_imul dX12_fault_13 ?_
      refine ii_iadd dX12_fault_14 ?_
      obtain ⟨c_3, hc_3, h⟩ := bnd h
      refine ii_callVi (As := [.int ((40 : Int32) + ((51 : Int32) * p0))]) (ws' := [(a_this, .inr (12, [.ref a_this_st, .ref a_this_images, .ref a_this_isKept, .long v_this_above, .long v_this_below, .int c_3.2.2.1, .ref a_this_step, .ref a_this_with, .int c_3.2.2.2.1, .ref a_this_waits, .ref a_this_value, .ref a_this_given, .ref a_this_net, .ref a_this_together, .ref a_this_most, .ref a_this_owes, .ref a_this_can, .ref a_this_row, .ref a_this_before, .ref a_this_to, .ref a_this_on, .ref a_this_load, .ref a_this_lead, .ref a_this_bestLead, .ref a_this_silver])), (a_this_st, .inl (cI, 1951, .inl v_this_st)), (a_this_step, .inl (cI, 70, .inl c_3.2.1)), (a_this_waits, .inl (cI, 70, .inl c_3.2.2.2.2.1)), (a_this_with, .inl (cI, 70, .inl c_3.2.2.2.2.2))]) (st := []) (c_X12_reads l D cI cJ cZ cH a_this a_this_before a_this_bestLead a_this_can a_this_given a_this_images a_this_isKept a_this_lead a_this_load a_this_most a_this_net a_this_on a_this_owes a_this_row a_this_silver a_this_st a_this_step a_this_to a_this_together a_this_value a_this_waits a_this_with v_this_above v_this_below v_this_st v_this_step v_this_steps v_this_waiting v_this_waits v_this_with ((40 : Int32) + ((51 : Int32) * p0)) hc_3) gzX12_148 rfl rfl rfl eV_X12_reads ⟨Nat.le_of_ble_eq_true rfl, Nat.le_of_ble_eq_true rfl⟩ rfl 0 rfl rfl [0, 1, 2, 3, 4] rfl rfl rfl rfl rfl (Nat.le_of_ble_eq_true rfl) (Nat.le_refl _) (Nat.le_refl _) rfl dX12_fault_15 ?_
      refine ii_goto (tgt := 23) dX12_fault_18 (by decide) ?_
      refine ii_lv [] rfl ?_
      cases h
      exact hjj_2
set_option maxHeartbeats 4000000 in
set_option maxRecDepth 100000 in
theorem c_X12_tells (l : Launch) (D : va_G) (cI cJ cZ cH : ClassId) (a_this a_this_before a_this_bestLead a_this_can a_this_given a_this_images a_this_isKept a_this_lead a_this_load a_this_most a_this_net a_this_on a_this_owes a_this_row a_this_silver a_this_st a_this_step a_this_to a_this_together a_this_value a_this_waits a_this_with : Nat) (v_this_above : Int64) (v_this_below : Int64) (v_this_given : Nat → Int64) (v_this_st : Nat → Int32) (v_this_step : Nat → Int32) (v_this_steps : Int32) (v_this_value : Nat → Int64) (v_this_waiting : Int32) (v_this_waits : Nat → Int32) (v_this_with : Nat → Int32) (p0 : Int32) (p1 : Int32) (p2 : Int32) (p3 : Int32) (p4 : Int32) (p5 : Int64) {res : Int64 × (Nat → Int64) × (Nat → Int32) × Int32 × (Nat → Int64) × Int32 × (Nat → Int32) × (Nat → Int32)} (h : F_X12_tells v_this_given v_this_st v_this_step v_this_steps v_this_value v_this_waiting v_this_waits v_this_with p0 p1 p2 p3 p4 p5 = some res) : CTl l yX12_tells wzX12_tells { frames := 4, cells := 0, slots := 0, locals := 93 } D [(cI, .int), (cJ, .long), (cZ, .boolean), (cH, .object "TinHouse$House")] [.ref a_this, .int p0, .int p1, .int p2, .int p3, .int p4, .long p5] [(a_this, .inr (12, [.ref a_this_st, .ref a_this_images, .ref a_this_isKept, .long v_this_above, .long v_this_below, .int v_this_steps, .ref a_this_step, .ref a_this_with, .int v_this_waiting, .ref a_this_waits, .ref a_this_value, .ref a_this_given, .ref a_this_net, .ref a_this_together, .ref a_this_most, .ref a_this_owes, .ref a_this_can, .ref a_this_row, .ref a_this_before, .ref a_this_to, .ref a_this_on, .ref a_this_load, .ref a_this_lead, .ref a_this_bestLead, .ref a_this_silver])), (a_this_given, .inl (cJ, 5, .inr (.inl v_this_given))), (a_this_st, .inl (cI, 1951, .inl v_this_st)), (a_this_step, .inl (cI, 70, .inl v_this_step)), (a_this_value, .inl (cJ, 70, .inr (.inl v_this_value))), (a_this_waits, .inl (cI, 70, .inl v_this_waits)), (a_this_with, .inl (cI, 70, .inl v_this_with))] res.1 [(a_this, .inr (12, [.ref a_this_st, .ref a_this_images, .ref a_this_isKept, .long v_this_above, .long v_this_below, .int res.2.2.2.1, .ref a_this_step, .ref a_this_with, .int res.2.2.2.2.2.1, .ref a_this_waits, .ref a_this_value, .ref a_this_given, .ref a_this_net, .ref a_this_together, .ref a_this_most, .ref a_this_owes, .ref a_this_can, .ref a_this_row, .ref a_this_before, .ref a_this_to, .ref a_this_on, .ref a_this_load, .ref a_this_lead, .ref a_this_bestLead, .ref a_this_silver])), (a_this_given, .inl (cJ, 5, .inr (.inl res.2.1))), (a_this_st, .inl (cI, 1951, .inl v_this_st)), (a_this_step, .inl (cI, 70, .inl res.2.2.1)), (a_this_value, .inl (cJ, 70, .inr (.inl res.2.2.2.2.1))), (a_this_waits, .inl (cI, 70, .inl res.2.2.2.2.2.2.1)), (a_this_with, .inl (cI, 70, .inl res.2.2.2.2.2.2.2))] := by
  unfold F_X12_tells at h
  refine ii_metL (own := RX12) (lv0 := [(0, .ref a_this), (1, .int p0), (2, .int p1), (3, .int p2), (4, .int p3), (5, .int p4), (6, .long p5)]) (by decide) rfl rfl rfl (Nat.le_of_ble_eq_true rfl) (fun {p e s m args below meth c A Q} hQ => ?_)
  refine ii_iload_n 1 dX12_tells_0 rfl ?_
  obtain ⟨c_1, hc_1, h⟩ := bnd h
  refine ii_callSi (As := [.int p0]) (ws' := [(a_this, .inr (12, [.ref a_this_st, .ref a_this_images, .ref a_this_isKept, .long v_this_above, .long v_this_below, .int v_this_steps, .ref a_this_step, .ref a_this_with, .int v_this_waiting, .ref a_this_waits, .ref a_this_value, .ref a_this_given, .ref a_this_net, .ref a_this_together, .ref a_this_most, .ref a_this_owes, .ref a_this_can, .ref a_this_row, .ref a_this_before, .ref a_this_to, .ref a_this_on, .ref a_this_load, .ref a_this_lead, .ref a_this_bestLead, .ref a_this_silver])), (a_this_given, .inl (cJ, 5, .inr (.inl v_this_given))), (a_this_st, .inl (cI, 1951, .inl v_this_st)), (a_this_step, .inl (cI, 70, .inl v_this_step)), (a_this_value, .inl (cJ, 70, .inr (.inl v_this_value))), (a_this_waits, .inl (cI, 70, .inl v_this_waits)), (a_this_with, .inl (cI, 70, .inl v_this_with))]) (st := []) (c_X12_isText l D cI cJ cZ cH p0 hc_1) gzX12_139 rfl rfl rfl eS_X12_isText ⟨Nat.le_of_ble_eq_true rfl, Nat.le_of_ble_eq_true rfl⟩ rfl [] rfl rfl rfl rfl rfl (Nat.le_of_ble_eq_true rfl) (Nat.le_refl _) (Nat.le_refl _) rfl dX12_tells_1 ?_
  refine ii_if_eq (tgt := 48) h dX12_tells_4 (by decide) (fun h => ?_) (fun h => ?_)
  · skip
    refine ii_ldc2 (v := -2000000000000000000) dX12_tells_48 kX12_156 ?_
    cases h
    exact hQ _ _ dX12_tells_51
  · skip
    refine ii_iload_n 2 dX12_tells_7 rfl ?_
    refine ii_i2l dX12_tells_8 ?_
    refine ii_lconst dX12_tells_9 kl0 ?_
    refine ii_ldc2 (v := 5) dX12_tells_10 kX12_151 ?_
    obtain ⟨c_2, hc_2, h⟩ := bnd h
    refine ii_callSi (As := [.long p1.toInt64, .long (0 : Int64), .long (5 : Int64)]) (ws' := [(a_this, .inr (12, [.ref a_this_st, .ref a_this_images, .ref a_this_isKept, .long v_this_above, .long v_this_below, .int v_this_steps, .ref a_this_step, .ref a_this_with, .int v_this_waiting, .ref a_this_waits, .ref a_this_value, .ref a_this_given, .ref a_this_net, .ref a_this_together, .ref a_this_most, .ref a_this_owes, .ref a_this_can, .ref a_this_row, .ref a_this_before, .ref a_this_to, .ref a_this_on, .ref a_this_load, .ref a_this_lead, .ref a_this_bestLead, .ref a_this_silver])), (a_this_given, .inl (cJ, 5, .inr (.inl v_this_given))), (a_this_st, .inl (cI, 1951, .inl v_this_st)), (a_this_step, .inl (cI, 70, .inl v_this_step)), (a_this_value, .inl (cJ, 70, .inr (.inl v_this_value))), (a_this_waits, .inl (cI, 70, .inl v_this_waits)), (a_this_with, .inl (cI, 70, .inl v_this_with))]) (st := []) (c_X12_in l D cI cJ cZ cH p1.toInt64 (0 : Int64) (5 : Int64) hc_2) gzX12_79 rfl rfl rfl eS_X12_in ⟨Nat.le_of_ble_eq_true rfl, Nat.le_of_ble_eq_true rfl⟩ rfl [] rfl rfl rfl rfl rfl (Nat.le_of_ble_eq_true rfl) (Nat.le_refl _) (Nat.le_refl _) rfl dX12_tells_13 ?_
    refine ii_if_eq (tgt := 48) h dX12_tells_16 (by decide) (fun h => ?_) (fun h => ?_)
    · skip
      refine ii_ldc2 (v := -2000000000000000000) dX12_tells_48 kX12_156 ?_
      cases h
      exact hQ _ _ dX12_tells_51
    · skip
      refine ii_iload_n 3 dX12_tells_19 rfl ?_
      refine ii_i2l dX12_tells_20 ?_
      refine ii_lconst dX12_tells_21 kl0 ?_
      refine ii_lconst dX12_tells_22 kl1 ?_
      obtain ⟨c_3, hc_3, h⟩ := bnd h
      refine ii_callSi (As := [.long p2.toInt64, .long (0 : Int64), .long (1 : Int64)]) (ws' := [(a_this, .inr (12, [.ref a_this_st, .ref a_this_images, .ref a_this_isKept, .long v_this_above, .long v_this_below, .int v_this_steps, .ref a_this_step, .ref a_this_with, .int v_this_waiting, .ref a_this_waits, .ref a_this_value, .ref a_this_given, .ref a_this_net, .ref a_this_together, .ref a_this_most, .ref a_this_owes, .ref a_this_can, .ref a_this_row, .ref a_this_before, .ref a_this_to, .ref a_this_on, .ref a_this_load, .ref a_this_lead, .ref a_this_bestLead, .ref a_this_silver])), (a_this_given, .inl (cJ, 5, .inr (.inl v_this_given))), (a_this_st, .inl (cI, 1951, .inl v_this_st)), (a_this_step, .inl (cI, 70, .inl v_this_step)), (a_this_value, .inl (cJ, 70, .inr (.inl v_this_value))), (a_this_waits, .inl (cI, 70, .inl v_this_waits)), (a_this_with, .inl (cI, 70, .inl v_this_with))]) (st := []) (c_X12_in l D cI cJ cZ cH p2.toInt64 (0 : Int64) (1 : Int64) hc_3) gzX12_79 rfl rfl rfl eS_X12_in ⟨Nat.le_of_ble_eq_true rfl, Nat.le_of_ble_eq_true rfl⟩ rfl [] rfl rfl rfl rfl rfl (Nat.le_of_ble_eq_true rfl) (Nat.le_refl _) (Nat.le_refl _) rfl dX12_tells_23 ?_
      refine ii_if_eq (tgt := 48) h dX12_tells_26 (by decide) (fun h => ?_) (fun h => ?_)
      · skip
        refine ii_ldc2 (v := -2000000000000000000) dX12_tells_48 kX12_156 ?_
        cases h
        exact hQ _ _ dX12_tells_51
      · skip
        refine ii_iload 4 dX12_tells_29 rfl ?_
        refine ii_i2l dX12_tells_31 ?_
        refine ii_lconst dX12_tells_32 kl0 ?_
        refine ii_lconst dX12_tells_33 kl1 ?_
        obtain ⟨c_4, hc_4, h⟩ := bnd h
        refine ii_callSi (As := [.long p3.toInt64, .long (0 : Int64), .long (1 : Int64)]) (ws' := [(a_this, .inr (12, [.ref a_this_st, .ref a_this_images, .ref a_this_isKept, .long v_this_above, .long v_this_below, .int v_this_steps, .ref a_this_step, .ref a_this_with, .int v_this_waiting, .ref a_this_waits, .ref a_this_value, .ref a_this_given, .ref a_this_net, .ref a_this_together, .ref a_this_most, .ref a_this_owes, .ref a_this_can, .ref a_this_row, .ref a_this_before, .ref a_this_to, .ref a_this_on, .ref a_this_load, .ref a_this_lead, .ref a_this_bestLead, .ref a_this_silver])), (a_this_given, .inl (cJ, 5, .inr (.inl v_this_given))), (a_this_st, .inl (cI, 1951, .inl v_this_st)), (a_this_step, .inl (cI, 70, .inl v_this_step)), (a_this_value, .inl (cJ, 70, .inr (.inl v_this_value))), (a_this_waits, .inl (cI, 70, .inl v_this_waits)), (a_this_with, .inl (cI, 70, .inl v_this_with))]) (st := []) (c_X12_in l D cI cJ cZ cH p3.toInt64 (0 : Int64) (1 : Int64) hc_4) gzX12_79 rfl rfl rfl eS_X12_in ⟨Nat.le_of_ble_eq_true rfl, Nat.le_of_ble_eq_true rfl⟩ rfl [] rfl rfl rfl rfl rfl (Nat.le_of_ble_eq_true rfl) (Nat.le_refl _) (Nat.le_refl _) rfl dX12_tells_34 ?_
        refine ii_if_eq (tgt := 48) h dX12_tells_37 (by decide) (fun h => ?_) (fun h => ?_)
        · skip
          refine ii_ldc2 (v := -2000000000000000000) dX12_tells_48 kX12_156 ?_
          cases h
          exact hQ _ _ dX12_tells_51
        · skip
          refine ii_iload 5 dX12_tells_40 rfl ?_
          obtain ⟨c_5, hc_5, h⟩ := bnd h
          refine ii_callSi (As := [.int p4]) (ws' := [(a_this, .inr (12, [.ref a_this_st, .ref a_this_images, .ref a_this_isKept, .long v_this_above, .long v_this_below, .int v_this_steps, .ref a_this_step, .ref a_this_with, .int v_this_waiting, .ref a_this_waits, .ref a_this_value, .ref a_this_given, .ref a_this_net, .ref a_this_together, .ref a_this_most, .ref a_this_owes, .ref a_this_can, .ref a_this_row, .ref a_this_before, .ref a_this_to, .ref a_this_on, .ref a_this_load, .ref a_this_lead, .ref a_this_bestLead, .ref a_this_silver])), (a_this_given, .inl (cJ, 5, .inr (.inl v_this_given))), (a_this_st, .inl (cI, 1951, .inl v_this_st)), (a_this_step, .inl (cI, 70, .inl v_this_step)), (a_this_value, .inl (cJ, 70, .inr (.inl v_this_value))), (a_this_waits, .inl (cI, 70, .inl v_this_waits)), (a_this_with, .inl (cI, 70, .inl v_this_with))]) (st := []) (c_X12_isSeason l D cI cJ cZ cH p4 hc_5) gzX12_153 rfl rfl rfl eS_X12_isSeason ⟨Nat.le_of_ble_eq_true rfl, Nat.le_of_ble_eq_true rfl⟩ rfl [] rfl rfl rfl rfl rfl (Nat.le_of_ble_eq_true rfl) (Nat.le_refl _) (Nat.le_refl _) rfl dX12_tells_42 ?_
          refine ii_if_ne (tgt := 52) h dX12_tells_45 (by decide) (fun h => ?_) (fun h => ?_)
          · skip
            refine ii_aload_n 0 dX12_tells_52 rfl ?_
            refine ii_bipush dX12_tells_53 kb40 ?_
            refine ii_bipush dX12_tells_55 kb51 ?_
            refine ii_iload_n 1 dX12_tells_57 rfl ?_
            refine ii_imul dX12_tells_58 ?_
            refine ii_iadd dX12_tells_59 ?_
            obtain ⟨c_6, hc_6, h⟩ := bnd h
            refine ii_callVi (As := [.int ((40 : Int32) + ((51 : Int32) * p0))]) (ws' := [(a_this, .inr (12, [.ref a_this_st, .ref a_this_images, .ref a_this_isKept, .long v_this_above, .long v_this_below, .int c_6.2.2.1, .ref a_this_step, .ref a_this_with, .int c_6.2.2.2.1, .ref a_this_waits, .ref a_this_value, .ref a_this_given, .ref a_this_net, .ref a_this_together, .ref a_this_most, .ref a_this_owes, .ref a_this_can, .ref a_this_row, .ref a_this_before, .ref a_this_to, .ref a_this_on, .ref a_this_load, .ref a_this_lead, .ref a_this_bestLead, .ref a_this_silver])), (a_this_given, .inl (cJ, 5, .inr (.inl v_this_given))), (a_this_st, .inl (cI, 1951, .inl v_this_st)), (a_this_step, .inl (cI, 70, .inl c_6.2.1)), (a_this_value, .inl (cJ, 70, .inr (.inl v_this_value))), (a_this_waits, .inl (cI, 70, .inl c_6.2.2.2.2.1)), (a_this_with, .inl (cI, 70, .inl c_6.2.2.2.2.2))]) (st := []) (c_X12_reads l D cI cJ cZ cH a_this a_this_before a_this_bestLead a_this_can a_this_given a_this_images a_this_isKept a_this_lead a_this_load a_this_most a_this_net a_this_on a_this_owes a_this_row a_this_silver a_this_st a_this_step a_this_to a_this_together a_this_value a_this_waits a_this_with v_this_above v_this_below v_this_st v_this_step v_this_steps v_this_waiting v_this_waits v_this_with ((40 : Int32) + ((51 : Int32) * p0)) hc_6) gzX12_148 rfl rfl rfl eV_X12_reads ⟨Nat.le_of_ble_eq_true rfl, Nat.le_of_ble_eq_true rfl⟩ rfl 0 rfl rfl [0, 2, 3, 5, 6] rfl rfl rfl rfl rfl (Nat.le_of_ble_eq_true rfl) (Nat.le_refl _) (Nat.le_refl _) rfl dX12_tells_60 ?_
            refine ii_iconst dX12_tells_63 kcm1 ?_
            refine ii_icmp_eq (tgt := 71) h dX12_tells_64 (by decide) (fun h => ?_) (fun h => ?_)
            · skip
              refine ii_aload_n 0 dX12_tells_71 rfl ?_
              refine ii_iload_n 2 dX12_tells_72 rfl ?_
              refine ii_iload_n 3 dX12_tells_73 rfl ?_
              refine ii_iload 4 dX12_tells_74 rfl ?_
              refine ii_iload 5 dX12_tells_76 rfl ?_
              refine ii_lload 6 dX12_tells_78 rfl ?_
              obtain ⟨c_7, hc_7, h⟩ := bnd h
              refine ii_callVv (As := [.int p1, .int p2, .int p3, .int p4, .long p5]) (ws' := [(a_this, .inr (12, [.ref a_this_st, .ref a_this_images, .ref a_this_isKept, .long v_this_above, .long v_this_below, .int c_6.2.2.1, .ref a_this_step, .ref a_this_with, .int c_6.2.2.2.1, .ref a_this_waits, .ref a_this_value, .ref a_this_given, .ref a_this_net, .ref a_this_together, .ref a_this_most, .ref a_this_owes, .ref a_this_can, .ref a_this_row, .ref a_this_before, .ref a_this_to, .ref a_this_on, .ref a_this_load, .ref a_this_lead, .ref a_this_bestLead, .ref a_this_silver])), (a_this_given, .inl (cJ, 5, .inr (.inl c_7))), (a_this_st, .inl (cI, 1951, .inl v_this_st)), (a_this_step, .inl (cI, 70, .inl c_6.2.1)), (a_this_value, .inl (cJ, 70, .inr (.inl v_this_value))), (a_this_waits, .inl (cI, 70, .inl c_6.2.2.2.2.1)), (a_this_with, .inl (cI, 70, .inl c_6.2.2.2.2.2))]) (st := []) (c_X12_gives l D cI cJ cZ cH a_this a_this_before a_this_bestLead a_this_can a_this_given a_this_images a_this_isKept a_this_lead a_this_load a_this_most a_this_net a_this_on a_this_owes a_this_row a_this_silver a_this_st a_this_step a_this_to a_this_together a_this_value a_this_waits a_this_with v_this_above v_this_below v_this_given c_6.2.2.1 c_6.2.2.2.1 p1 p2 p3 p4 p5 hc_7) gzX12_160 rfl rfl rfl eV_X12_gives ⟨Nat.le_of_ble_eq_true rfl, Nat.le_of_ble_eq_true rfl⟩ rfl 0 rfl rfl [0, 1] rfl rfl rfl rfl rfl (Nat.le_of_ble_eq_true rfl) (Nat.le_refl _) (Nat.le_refl _) rfl dX12_tells_80 ?_
              refine ii_aload_n 0 dX12_tells_83 rfl ?_
              obtain ⟨c_8, hc_8, h⟩ := bnd h
              refine ii_callVl (As := []) (ws' := [(a_this, .inr (12, [.ref a_this_st, .ref a_this_images, .ref a_this_isKept, .long v_this_above, .long v_this_below, .int c_6.2.2.1, .ref a_this_step, .ref a_this_with, .int c_6.2.2.2.1, .ref a_this_waits, .ref a_this_value, .ref a_this_given, .ref a_this_net, .ref a_this_together, .ref a_this_most, .ref a_this_owes, .ref a_this_can, .ref a_this_row, .ref a_this_before, .ref a_this_to, .ref a_this_on, .ref a_this_load, .ref a_this_lead, .ref a_this_bestLead, .ref a_this_silver])), (a_this_given, .inl (cJ, 5, .inr (.inl c_7))), (a_this_st, .inl (cI, 1951, .inl v_this_st)), (a_this_step, .inl (cI, 70, .inl c_6.2.1)), (a_this_value, .inl (cJ, 70, .inr (.inl c_8.2))), (a_this_waits, .inl (cI, 70, .inl c_6.2.2.2.2.1)), (a_this_with, .inl (cI, 70, .inl c_6.2.2.2.2.2))]) (st := []) (c_X12_tellsOf l D cI cJ cZ cH a_this a_this_before a_this_bestLead a_this_can a_this_given a_this_images a_this_isKept a_this_lead a_this_load a_this_most a_this_net a_this_on a_this_owes a_this_row a_this_silver a_this_st a_this_step a_this_to a_this_together a_this_value a_this_waits a_this_with v_this_above v_this_below c_7 c_6.2.1 c_6.2.2.1 v_this_value c_6.2.2.2.1 c_6.2.2.2.2.2 hc_8) gzX12_164 rfl rfl rfl eV_X12_tellsOf ⟨Nat.le_of_ble_eq_true rfl, Nat.le_of_ble_eq_true rfl⟩ rfl 0 rfl rfl [0, 1, 3, 4, 6] rfl rfl rfl rfl rfl (Nat.le_of_ble_eq_true rfl) (Nat.le_refl _) (Nat.le_refl _) rfl dX12_tells_84 ?_
              cases h
              exact hQ _ _ dX12_tells_87
            · skip
              refine ii_ldc2 (v := -3000000000000000000) dX12_tells_67 kX12_158 ?_
              cases h
              exact hQ _ _ dX12_tells_70
          · skip
            refine ii_ldc2 (v := -2000000000000000000) dX12_tells_48 kX12_156 ?_
            cases h
            exact hQ _ _ dX12_tells_51
set_option maxHeartbeats 4000000 in
set_option maxRecDepth 100000 in
theorem c_X12_act (l : Launch) (D : va_G) (cI cJ cZ cH : ClassId) (a_this a_this_before a_this_bestLead a_this_can a_this_given a_this_images a_this_isKept a_this_lead a_this_load a_this_most a_this_net a_this_on a_this_owes a_this_row a_this_silver a_this_st a_this_step a_this_to a_this_together a_this_value a_this_waits a_this_with : Nat) (v_this_above : Int64) (v_this_below : Int64) (v_this_st : Nat → Int32) (v_this_step : Nat → Int32) (v_this_steps : Int32) (v_this_waiting : Int32) (v_this_waits : Nat → Int32) (v_this_with : Nat → Int32) (p0 : Int32) (p1 : Int32) (p2 : Int32) {res : Int32 × (Nat → Int32) × (Nat → Int32) × Int32 × Int32 × (Nat → Int32) × (Nat → Int32)} (h : F_X12_act v_this_st v_this_step v_this_steps v_this_waiting v_this_waits v_this_with p0 p1 p2 = some res) : CTi l yX12_act wzX12_act { frames := 4, cells := 0, slots := 0, locals := 93 } D [(cI, .int), (cJ, .long), (cZ, .boolean), (cH, .object "TinHouse$House")] [.ref a_this, .int p0, .int p1, .int p2] [(a_this, .inr (12, [.ref a_this_st, .ref a_this_images, .ref a_this_isKept, .long v_this_above, .long v_this_below, .int v_this_steps, .ref a_this_step, .ref a_this_with, .int v_this_waiting, .ref a_this_waits, .ref a_this_value, .ref a_this_given, .ref a_this_net, .ref a_this_together, .ref a_this_most, .ref a_this_owes, .ref a_this_can, .ref a_this_row, .ref a_this_before, .ref a_this_to, .ref a_this_on, .ref a_this_load, .ref a_this_lead, .ref a_this_bestLead, .ref a_this_silver])), (a_this_st, .inl (cI, 1951, .inl v_this_st)), (a_this_step, .inl (cI, 70, .inl v_this_step)), (a_this_waits, .inl (cI, 70, .inl v_this_waits)), (a_this_with, .inl (cI, 70, .inl v_this_with))] res.1 [(a_this, .inr (12, [.ref a_this_st, .ref a_this_images, .ref a_this_isKept, .long v_this_above, .long v_this_below, .int res.2.2.2.1, .ref a_this_step, .ref a_this_with, .int res.2.2.2.2.1, .ref a_this_waits, .ref a_this_value, .ref a_this_given, .ref a_this_net, .ref a_this_together, .ref a_this_most, .ref a_this_owes, .ref a_this_can, .ref a_this_row, .ref a_this_before, .ref a_this_to, .ref a_this_on, .ref a_this_load, .ref a_this_lead, .ref a_this_bestLead, .ref a_this_silver])), (a_this_st, .inl (cI, 1951, .inl res.2.1)), (a_this_step, .inl (cI, 70, .inl res.2.2.1)), (a_this_waits, .inl (cI, 70, .inl res.2.2.2.2.2.1)), (a_this_with, .inl (cI, 70, .inl res.2.2.2.2.2.2))] := by
  unfold F_X12_act at h
  refine ii_metI (own := RX12) (lv0 := [(0, .ref a_this), (1, .int p0), (2, .int p1), (3, .int p2)]) (by decide) rfl rfl rfl (Nat.le_of_ble_eq_true rfl) (fun {p e s m args below meth c A Q} hQ => ?_)
  refine ii_iload_n 1 dX12_act_0 rfl ?_
  obtain ⟨c_1, hc_1, h⟩ := bnd h
  refine ii_callSi (As := [.int p0]) (ws' := [(a_this, .inr (12, [.ref a_this_st, .ref a_this_images, .ref a_this_isKept, .long v_this_above, .long v_this_below, .int v_this_steps, .ref a_this_step, .ref a_this_with, .int v_this_waiting, .ref a_this_waits, .ref a_this_value, .ref a_this_given, .ref a_this_net, .ref a_this_together, .ref a_this_most, .ref a_this_owes, .ref a_this_can, .ref a_this_row, .ref a_this_before, .ref a_this_to, .ref a_this_on, .ref a_this_load, .ref a_this_lead, .ref a_this_bestLead, .ref a_this_silver])), (a_this_st, .inl (cI, 1951, .inl v_this_st)), (a_this_step, .inl (cI, 70, .inl v_this_step)), (a_this_waits, .inl (cI, 70, .inl v_this_waits)), (a_this_with, .inl (cI, 70, .inl v_this_with))]) (st := []) (c_X12_isText l D cI cJ cZ cH p0 hc_1) gzX12_139 rfl rfl rfl eS_X12_isText ⟨Nat.le_of_ble_eq_true rfl, Nat.le_of_ble_eq_true rfl⟩ rfl [] rfl rfl rfl rfl rfl (Nat.le_of_ble_eq_true rfl) (Nat.le_refl _) (Nat.le_refl _) rfl dX12_act_1 ?_
  refine ii_if_eq (tgt := 26) h dX12_act_4 (by decide) (fun h => ?_) (fun h => ?_)
  · skip
    refine ii_bipush dX12_act_26 kbm2 ?_
    cases h
    exact hQ _ _ dX12_act_28
  · skip
    refine ii_iload_n 2 dX12_act_7 rfl ?_
    refine ii_i2l dX12_act_8 ?_
    refine ii_lconst dX12_act_9 kl0 ?_
    refine ii_ldc2 (v := 2) dX12_act_10 kX12_168 ?_
    obtain ⟨c_2, hc_2, h⟩ := bnd h
    refine ii_callSi (As := [.long p1.toInt64, .long (0 : Int64), .long (2 : Int64)]) (ws' := [(a_this, .inr (12, [.ref a_this_st, .ref a_this_images, .ref a_this_isKept, .long v_this_above, .long v_this_below, .int v_this_steps, .ref a_this_step, .ref a_this_with, .int v_this_waiting, .ref a_this_waits, .ref a_this_value, .ref a_this_given, .ref a_this_net, .ref a_this_together, .ref a_this_most, .ref a_this_owes, .ref a_this_can, .ref a_this_row, .ref a_this_before, .ref a_this_to, .ref a_this_on, .ref a_this_load, .ref a_this_lead, .ref a_this_bestLead, .ref a_this_silver])), (a_this_st, .inl (cI, 1951, .inl v_this_st)), (a_this_step, .inl (cI, 70, .inl v_this_step)), (a_this_waits, .inl (cI, 70, .inl v_this_waits)), (a_this_with, .inl (cI, 70, .inl v_this_with))]) (st := []) (c_X12_in l D cI cJ cZ cH p1.toInt64 (0 : Int64) (2 : Int64) hc_2) gzX12_79 rfl rfl rfl eS_X12_in ⟨Nat.le_of_ble_eq_true rfl, Nat.le_of_ble_eq_true rfl⟩ rfl [] rfl rfl rfl rfl rfl (Nat.le_of_ble_eq_true rfl) (Nat.le_refl _) (Nat.le_refl _) rfl dX12_act_13 ?_
    refine ii_if_eq (tgt := 26) h dX12_act_16 (by decide) (fun h => ?_) (fun h => ?_)
    · skip
      refine ii_bipush dX12_act_26 kbm2 ?_
      cases h
      exact hQ _ _ dX12_act_28
    · skip
      refine ii_iload_n 3 dX12_act_19 rfl ?_
      obtain ⟨c_3, hc_3, h⟩ := bnd h
      refine ii_callSi (As := [.int p2]) (ws' := [(a_this, .inr (12, [.ref a_this_st, .ref a_this_images, .ref a_this_isKept, .long v_this_above, .long v_this_below, .int v_this_steps, .ref a_this_step, .ref a_this_with, .int v_this_waiting, .ref a_this_waits, .ref a_this_value, .ref a_this_given, .ref a_this_net, .ref a_this_together, .ref a_this_most, .ref a_this_owes, .ref a_this_can, .ref a_this_row, .ref a_this_before, .ref a_this_to, .ref a_this_on, .ref a_this_load, .ref a_this_lead, .ref a_this_bestLead, .ref a_this_silver])), (a_this_st, .inl (cI, 1951, .inl v_this_st)), (a_this_step, .inl (cI, 70, .inl v_this_step)), (a_this_waits, .inl (cI, 70, .inl v_this_waits)), (a_this_with, .inl (cI, 70, .inl v_this_with))]) (st := []) (c_X12_isSeason l D cI cJ cZ cH p2 hc_3) gzX12_153 rfl rfl rfl eS_X12_isSeason ⟨Nat.le_of_ble_eq_true rfl, Nat.le_of_ble_eq_true rfl⟩ rfl [] rfl rfl rfl rfl rfl (Nat.le_of_ble_eq_true rfl) (Nat.le_refl _) (Nat.le_refl _) rfl dX12_act_20 ?_
      refine ii_if_ne (tgt := 29) h dX12_act_23 (by decide) (fun h => ?_) (fun h => ?_)
      · skip
        refine ii_aload_n 0 dX12_act_29 rfl ?_
        refine ii_bipush dX12_act_30 kb40 ?_
        refine ii_bipush dX12_act_32 kb51 ?_
        refine ii_iload_n 1 dX12_act_34 rfl ?_
        refine ii_imul dX12_act_35 ?_
        refine ii_iadd dX12_act_36 ?_
        obtain ⟨c_4, hc_4, h⟩ := bnd h
        refine ii_callVi (As := [.int ((40 : Int32) + ((51 : Int32) * p0))]) (ws' := [(a_this, .inr (12, [.ref a_this_st, .ref a_this_images, .ref a_this_isKept, .long v_this_above, .long v_this_below, .int c_4.2.2.1, .ref a_this_step, .ref a_this_with, .int c_4.2.2.2.1, .ref a_this_waits, .ref a_this_value, .ref a_this_given, .ref a_this_net, .ref a_this_together, .ref a_this_most, .ref a_this_owes, .ref a_this_can, .ref a_this_row, .ref a_this_before, .ref a_this_to, .ref a_this_on, .ref a_this_load, .ref a_this_lead, .ref a_this_bestLead, .ref a_this_silver])), (a_this_st, .inl (cI, 1951, .inl v_this_st)), (a_this_step, .inl (cI, 70, .inl c_4.2.1)), (a_this_waits, .inl (cI, 70, .inl c_4.2.2.2.2.1)), (a_this_with, .inl (cI, 70, .inl c_4.2.2.2.2.2))]) (st := []) (c_X12_reads l D cI cJ cZ cH a_this a_this_before a_this_bestLead a_this_can a_this_given a_this_images a_this_isKept a_this_lead a_this_load a_this_most a_this_net a_this_on a_this_owes a_this_row a_this_silver a_this_st a_this_step a_this_to a_this_together a_this_value a_this_waits a_this_with v_this_above v_this_below v_this_st v_this_step v_this_steps v_this_waiting v_this_waits v_this_with ((40 : Int32) + ((51 : Int32) * p0)) hc_4) gzX12_148 rfl rfl rfl eV_X12_reads ⟨Nat.le_of_ble_eq_true rfl, Nat.le_of_ble_eq_true rfl⟩ rfl 0 rfl rfl [0, 1, 2, 3, 4] rfl rfl rfl rfl rfl (Nat.le_of_ble_eq_true rfl) (Nat.le_refl _) (Nat.le_refl _) rfl dX12_act_37 ?_
        refine ii_iconst dX12_act_40 kcm1 ?_
        refine ii_icmp_eq (tgt := 47) h dX12_act_41 (by decide) (fun h => ?_) (fun h => ?_)
        · skip
          refine ii_aload_n 0 dX12_act_47 rfl ?_
          refine ii_get (C := RX12) (T := TX12) (N := 25) (ci := 12) izX12 0 rfl rfl 0 (by decide) kX12_7 rfl dX12_act_48 ?_
          refine ii_iconst dX12_act_51 kc1 ?_
          refine ii_iald h 1 0 rfl rfl dX12_act_52 (fun t_5 h => ?_)
          refine ii_bipush dX12_act_53 kb16 ?_
          refine ii_icmp_ne (tgt := 61) h dX12_act_55 (by decide) (fun h => ?_) (fun h => ?_)
          · skip
            refine ii_sipush dX12_act_61 ks244 ?_
            refine ii_bipush dX12_act_64 kb53 ?_
            refine ii_aload_n 0 dX12_act_66 rfl ?_
            refine ii_get (C := RX12) (T := TX12) (N := 25) (ci := 12) izX12 0 rfl rfl 0 (by decide) kX12_7 rfl dX12_act_67 ?_
            refine ii_iconst dX12_act_70 kc1 ?_
            refine ii_iald h 1 0 rfl rfl dX12_act_71 (fun t_6 h => ?_)
            refine ii_imul dX12_act_72 ?_
            refine ii_iadd dX12_act_73 ?_
            refine ii_topI h (fun x_7 h => ?_)
            refine ii_istore (lv' := [(4, .int x_7), (0, .ref a_this), (1, .int p0), (2, .int p1), (3, .int p2)]) dX12_act_74 (by decide) rfl ?_
            refine ii_aload_n 1 dX12_act_76 rfl ?_
            refine ii_get (C := RX12) (T := TX12) (N := 25) (ci := 12) izX12 0 rfl rfl 0 (by decide) kX12_7 rfl dX12_act_77 ?_
            refine ii_iload 0 dX12_act_80 rfl ?_
            refine ii_iload_n 3 dX12_act_82 rfl ?_
            refine ii_iast (fun g_8 => [(a_this, .inr (12, [.ref a_this_st, .ref a_this_images, .ref a_this_isKept, .long v_this_above, .long v_this_below, .int c_4.2.2.1, .ref a_this_step, .ref a_this_with, .int c_4.2.2.2.1, .ref a_this_waits, .ref a_this_value, .ref a_this_given, .ref a_this_net, .ref a_this_together, .ref a_this_most, .ref a_this_owes, .ref a_this_can, .ref a_this_row, .ref a_this_before, .ref a_this_to, .ref a_this_on, .ref a_this_load, .ref a_this_lead, .ref a_this_bestLead, .ref a_this_silver])), (a_this_st, .inl (cI, 1951, .inl g_8)), (a_this_step, .inl (cI, 70, .inl c_4.2.1)), (a_this_waits, .inl (cI, 70, .inl c_4.2.2.2.2.1)), (a_this_with, .inl (cI, 70, .inl c_4.2.2.2.2.2))]) h 1 0 rfl rfl dX12_act_83 (fun _ => rfl) (fun g_8 h => ?_)
            refine ii_aload_n 1 dX12_act_84 rfl ?_
            refine ii_get (C := RX12) (T := TX12) (N := 25) (ci := 12) izX12 0 rfl rfl 0 (by decide) kX12_7 rfl dX12_act_85 ?_
            refine ii_iload 0 dX12_act_88 rfl ?_
            refine ii_iconst dX12_act_90 kc1 ?_
            refine ii_iadd dX12_act_91 ?_
            refine ii_iload_n 4 dX12_act_92 rfl ?_
            refine ii_iast (fun g_9 => [(a_this, .inr (12, [.ref a_this_st, .ref a_this_images, .ref a_this_isKept, .long v_this_above, .long v_this_below, .int c_4.2.2.1, .ref a_this_step, .ref a_this_with, .int c_4.2.2.2.1, .ref a_this_waits, .ref a_this_value, .ref a_this_given, .ref a_this_net, .ref a_this_together, .ref a_this_most, .ref a_this_owes, .ref a_this_can, .ref a_this_row, .ref a_this_before, .ref a_this_to, .ref a_this_on, .ref a_this_load, .ref a_this_lead, .ref a_this_bestLead, .ref a_this_silver])), (a_this_st, .inl (cI, 1951, .inl g_9)), (a_this_step, .inl (cI, 70, .inl c_4.2.1)), (a_this_waits, .inl (cI, 70, .inl c_4.2.2.2.2.1)), (a_this_with, .inl (cI, 70, .inl c_4.2.2.2.2.2))]) h 1 0 rfl rfl dX12_act_93 (fun _ => rfl) (fun g_9 h => ?_)
            refine ii_iconst dX12_act_94 kc0 ?_
            refine ii_istore (lv' := [(5, .int (0 : Int32)), (4, .int x_7), (0, .ref a_this), (1, .int p0), (2, .int p1), (3, .int p2)]) dX12_act_95 (by decide) rfl ?_
            refine ii_lv [2, 3, 1, 0] rfl ?_
            obtain ⟨x_11, hl_10, h⟩ := bnd h
            refine ii_loopX (fun s_10 => [(a_this, .inr (12, [.ref a_this_st, .ref a_this_images, .ref a_this_isKept, .long v_this_above, .long v_this_below, .int c_4.2.2.1, .ref a_this_step, .ref a_this_with, .int c_4.2.2.2.1, .ref a_this_waits, .ref a_this_value, .ref a_this_given, .ref a_this_net, .ref a_this_together, .ref a_this_most, .ref a_this_owes, .ref a_this_can, .ref a_this_row, .ref a_this_before, .ref a_this_to, .ref a_this_on, .ref a_this_load, .ref a_this_lead, .ref a_this_bestLead, .ref a_this_silver])), (a_this_st, .inl (cI, 1951, .inl s_10.2)), (a_this_step, .inl (cI, 70, .inl c_4.2.1)), (a_this_waits, .inl (cI, 70, .inl c_4.2.2.2.2.1)), (a_this_with, .inl (cI, 70, .inl c_4.2.2.2.2.2))]) (fun s_10 => [(0, .ref a_this), (1, .int p0), (4, .int x_7), (5, .int s_10.1)]) (fun x_11 => [(a_this, .inr (12, [.ref a_this_st, .ref a_this_images, .ref a_this_isKept, .long v_this_above, .long v_this_below, .int c_4.2.2.1, .ref a_this_step, .ref a_this_with, .int c_4.2.2.2.1, .ref a_this_waits, .ref a_this_value, .ref a_this_given, .ref a_this_net, .ref a_this_together, .ref a_this_most, .ref a_this_owes, .ref a_this_can, .ref a_this_row, .ref a_this_before, .ref a_this_to, .ref a_this_on, .ref a_this_load, .ref a_this_lead, .ref a_this_bestLead, .ref a_this_silver])), (a_this_st, .inl (cI, 1951, .inl x_11.2)), (a_this_step, .inl (cI, 70, .inl c_4.2.1)), (a_this_waits, .inl (cI, 70, .inl c_4.2.2.2.2.1)), (a_this_with, .inl (cI, 70, .inl c_4.2.2.2.2.2))]) (fun x_11 => [(0, .ref a_this)]) 137 hl_10 rfl rfl ?_ (fun s_10 o h hb_10 hr_10 hx_10 => ?_)
            · skip
              refine ii_aload_n 0 dX12_act_137 rfl ?_
              refine ii_iconst dX12_act_138 kc1 ?_
              obtain ⟨c_15, hc_15, h⟩ := bnd h
              refine ii_callVi (As := [.int (1 : Int32)]) (ws' := [(a_this, .inr (12, [.ref a_this_st, .ref a_this_images, .ref a_this_isKept, .long v_this_above, .long v_this_below, .int c_4.2.2.1, .ref a_this_step, .ref a_this_with, .int c_4.2.2.2.1, .ref a_this_waits, .ref a_this_value, .ref a_this_given, .ref a_this_net, .ref a_this_together, .ref a_this_most, .ref a_this_owes, .ref a_this_can, .ref a_this_row, .ref a_this_before, .ref a_this_to, .ref a_this_on, .ref a_this_load, .ref a_this_lead, .ref a_this_bestLead, .ref a_this_silver])), (a_this_st, .inl (cI, 1951, .inl c_15.2)), (a_this_step, .inl (cI, 70, .inl c_4.2.1)), (a_this_waits, .inl (cI, 70, .inl c_4.2.2.2.2.1)), (a_this_with, .inl (cI, 70, .inl c_4.2.2.2.2.2))]) (st := []) (c_X12_one l D cI cJ cZ cH a_this a_this_before a_this_bestLead a_this_can a_this_given a_this_images a_this_isKept a_this_lead a_this_load a_this_most a_this_net a_this_on a_this_owes a_this_row a_this_silver a_this_st a_this_step a_this_to a_this_together a_this_value a_this_waits a_this_with v_this_above v_this_below x_11.2 c_4.2.2.1 c_4.2.2.2.1 (1 : Int32) hc_15) gzX12_91 rfl rfl rfl eV_X12_one ⟨Nat.le_of_ble_eq_true rfl, Nat.le_of_ble_eq_true rfl⟩ rfl 0 rfl rfl [0, 1] rfl rfl rfl rfl rfl (Nat.le_of_ble_eq_true rfl) (Nat.le_refl _) (Nat.le_refl _) rfl dX12_act_139 ?_
              cases h
              exact hQ _ _ dX12_act_142
            · skip
              refine ii_iload 3 dX12_act_97 rfl ?_
              refine ii_bipush dX12_act_99 kb51 ?_
              refine ii_icmp_ge (tgt := 137) h dX12_act_101 (by decide) (fun h => ?_) (fun h => ?_)
              · skip
                refine ii_lv [0] rfl ?_
                cases h
                exact hx_10 (s_10.1, s_10.2) (hr_10 _ rfl)
              · skip
                refine ii_aload_n 0 dX12_act_104 rfl ?_
                refine ii_get (C := RX12) (T := TX12) (N := 25) (ci := 12) izX12 0 rfl rfl 0 (by decide) kX12_7 rfl dX12_act_105 ?_
                refine ii_iload 2 dX12_act_108 rfl ?_
                refine ii_iconst dX12_act_110 kc2 ?_
                refine ii_iadd dX12_act_111 ?_
                refine ii_iload 3 dX12_act_112 rfl ?_
                refine ii_iadd dX12_act_114 ?_
                refine ii_aload_n 0 dX12_act_115 rfl ?_
                refine ii_get (C := RX12) (T := TX12) (N := 25) (ci := 12) izX12 0 rfl rfl 0 (by decide) kX12_7 rfl dX12_act_116 ?_
                refine ii_bipush dX12_act_119 kb40 ?_
                refine ii_bipush dX12_act_121 kb51 ?_
                refine ii_iload_n 1 dX12_act_123 rfl ?_
                refine ii_imul dX12_act_124 ?_
                refine ii_iadd dX12_act_125 ?_
                refine ii_iload 3 dX12_act_126 rfl ?_
                refine ii_iadd dX12_act_128 ?_
                refine ii_iald h 1 0 rfl rfl dX12_act_129 (fun t_12 h => ?_)
                refine ii_iast (fun g_13 => [(a_this, .inr (12, [.ref a_this_st, .ref a_this_images, .ref a_this_isKept, .long v_this_above, .long v_this_below, .int c_4.2.2.1, .ref a_this_step, .ref a_this_with, .int c_4.2.2.2.1, .ref a_this_waits, .ref a_this_value, .ref a_this_given, .ref a_this_net, .ref a_this_together, .ref a_this_most, .ref a_this_owes, .ref a_this_can, .ref a_this_row, .ref a_this_before, .ref a_this_to, .ref a_this_on, .ref a_this_load, .ref a_this_lead, .ref a_this_bestLead, .ref a_this_silver])), (a_this_st, .inl (cI, 1951, .inl g_13)), (a_this_step, .inl (cI, 70, .inl c_4.2.1)), (a_this_waits, .inl (cI, 70, .inl c_4.2.2.2.2.1)), (a_this_with, .inl (cI, 70, .inl c_4.2.2.2.2.2))]) h 1 0 rfl rfl dX12_act_130 (fun _ => rfl) (fun g_13 h => ?_)
                refine ii_iinc (fun x_14 => [(5, .int x_14), (0, .ref a_this), (1, .int p0), (4, .int x_7)]) h 3 dX12_act_131 rfl kc1 (by decide) (fun _ => rfl) (fun x_14 h => ?_)
                refine ii_goto (tgt := 97) dX12_act_134 (by decide) ?_
                refine ii_lv [1, 2, 3, 0] rfl ?_
                cases h
                exact hb_10 (x_14, g_13) rfl
          · skip
            refine ii_bipush dX12_act_58 kbm4 ?_
            cases h
            exact hQ _ _ dX12_act_60
        · skip
          refine ii_bipush dX12_act_44 kbm3 ?_
          cases h
          exact hQ _ _ dX12_act_46
      · skip
        refine ii_bipush dX12_act_26 kbm2 ?_
        cases h
        exact hQ _ _ dX12_act_28
set_option maxHeartbeats 4000000 in
set_option maxRecDepth 100000 in
theorem c_X12_inForce (l : Launch) (D : va_G) (cI cJ cZ cH : ClassId) (a_this a_this_before a_this_bestLead a_this_can a_this_given a_this_images a_this_isKept a_this_lead a_this_load a_this_most a_this_net a_this_on a_this_owes a_this_row a_this_silver a_this_st a_this_step a_this_to a_this_together a_this_value a_this_waits a_this_with : Nat) (v_this_above : Int64) (v_this_below : Int64) (v_this_st : Nat → Int32) (v_this_steps : Int32) (v_this_waiting : Int32) (p0 : Int32) (p1 : Int32) {res : Int32} (h : F_X12_inForce v_this_st p0 p1 = some res) : CTi l yX12_inForce wzX12_inForce { frames := 0, cells := 0, slots := 0, locals := 0 } D [(cI, .int), (cJ, .long), (cZ, .boolean), (cH, .object "TinHouse$House")] [.ref a_this, .int p0, .int p1] [(a_this, .inr (12, [.ref a_this_st, .ref a_this_images, .ref a_this_isKept, .long v_this_above, .long v_this_below, .int v_this_steps, .ref a_this_step, .ref a_this_with, .int v_this_waiting, .ref a_this_waits, .ref a_this_value, .ref a_this_given, .ref a_this_net, .ref a_this_together, .ref a_this_most, .ref a_this_owes, .ref a_this_can, .ref a_this_row, .ref a_this_before, .ref a_this_to, .ref a_this_on, .ref a_this_load, .ref a_this_lead, .ref a_this_bestLead, .ref a_this_silver])), (a_this_st, .inl (cI, 1951, .inl v_this_st))] res [(a_this, .inr (12, [.ref a_this_st, .ref a_this_images, .ref a_this_isKept, .long v_this_above, .long v_this_below, .int v_this_steps, .ref a_this_step, .ref a_this_with, .int v_this_waiting, .ref a_this_waits, .ref a_this_value, .ref a_this_given, .ref a_this_net, .ref a_this_together, .ref a_this_most, .ref a_this_owes, .ref a_this_can, .ref a_this_row, .ref a_this_before, .ref a_this_to, .ref a_this_on, .ref a_this_load, .ref a_this_lead, .ref a_this_bestLead, .ref a_this_silver])), (a_this_st, .inl (cI, 1951, .inl v_this_st))] := by
  unfold F_X12_inForce at h
  refine ii_metI (own := RX12) (lv0 := [(0, .ref a_this), (1, .int p0), (2, .int p1)]) (by decide) rfl rfl rfl (Nat.le_of_ble_eq_true rfl) (fun {p e s m args below meth c A Q} hQ => ?_)
  refine ii_iconst dX12_inForce_0 kcm1 ?_
  refine ii_istore_n (lv' := [(3, .int (-1 : Int32)), (0, .ref a_this), (1, .int p0), (2, .int p1)]) dX12_inForce_1 rfl (by decide) rfl ?_
  refine ii_iconst dX12_inForce_2 kc0 ?_
  refine ii_istore (lv' := [(4, .int (0 : Int32)), (3, .int (-1 : Int32)), (0, .ref a_this), (1, .int p0), (2, .int p1)]) dX12_inForce_3 (by decide) rfl ?_
  refine ii_lv [2, 3, 4, 1, 0] rfl ?_
  obtain ⟨x_2, hl_1, h⟩ := bnd h
  refine ii_loopX (fun s_1 => [(a_this, .inr (12, [.ref a_this_st, .ref a_this_images, .ref a_this_isKept, .long v_this_above, .long v_this_below, .int v_this_steps, .ref a_this_step, .ref a_this_with, .int v_this_waiting, .ref a_this_waits, .ref a_this_value, .ref a_this_given, .ref a_this_net, .ref a_this_together, .ref a_this_most, .ref a_this_owes, .ref a_this_can, .ref a_this_row, .ref a_this_before, .ref a_this_to, .ref a_this_on, .ref a_this_load, .ref a_this_lead, .ref a_this_bestLead, .ref a_this_silver])), (a_this_st, .inl (cI, 1951, .inl v_this_st))]) (fun s_1 => [(0, .ref a_this), (1, .int p0), (2, .int p1), (3, .int s_1.1), (4, .int s_1.2)]) (fun x_2 => [(a_this, .inr (12, [.ref a_this_st, .ref a_this_images, .ref a_this_isKept, .long v_this_above, .long v_this_below, .int v_this_steps, .ref a_this_step, .ref a_this_with, .int v_this_waiting, .ref a_this_waits, .ref a_this_value, .ref a_this_given, .ref a_this_net, .ref a_this_together, .ref a_this_most, .ref a_this_owes, .ref a_this_can, .ref a_this_row, .ref a_this_before, .ref a_this_to, .ref a_this_on, .ref a_this_load, .ref a_this_lead, .ref a_this_bestLead, .ref a_this_silver])), (a_this_st, .inl (cI, 1951, .inl v_this_st))]) (fun x_2 => [(3, .int x_2.1)]) 108 hl_1 rfl rfl ?_ (fun s_1 o h hb_1 hr_1 hx_1 => ?_)
  · skip
    refine ii_iload_n 0 dX12_inForce_108 rfl ?_
    cases h
    exact hQ _ _ dX12_inForce_109
  · skip
    refine ii_iload 4 dX12_inForce_5 rfl ?_
    refine ii_aload_n 0 dX12_inForce_7 rfl ?_
    refine ii_get (C := RX12) (T := TX12) (N := 25) (ci := 12) izX12 0 rfl rfl 0 (by decide) kX12_7 rfl dX12_inForce_8 ?_
    refine ii_iconst dX12_inForce_11 kc1 ?_
    refine ii_iald h 1 0 rfl rfl dX12_inForce_12 (fun t_3 h => ?_)
    refine ii_icmp_ge (tgt := 108) h dX12_inForce_13 (by decide) (fun h => ?_) (fun h => ?_)
    · skip
      refine ii_lv [3] rfl ?_
      cases h
      exact hx_1 (s_1.1, s_1.2) (hr_1 _ rfl)
    · skip
      refine ii_sipush dX12_inForce_16 ks244 ?_
      refine ii_bipush dX12_inForce_19 kb53 ?_
      refine ii_iload 4 dX12_inForce_21 rfl ?_
      refine ii_imul dX12_inForce_23 ?_
      refine ii_iadd dX12_inForce_24 ?_
      refine ii_topI h (fun x_4 h => ?_)
      refine ii_istore (lv' := [(5, .int x_4), (0, .ref a_this), (1, .int p0), (2, .int p1), (3, .int s_1.1), (4, .int s_1.2)]) dX12_inForce_25 (by decide) rfl ?_
      refine ii_aload_n 1 dX12_inForce_27 rfl ?_
      refine ii_get (C := RX12) (T := TX12) (N := 25) (ci := 12) izX12 0 rfl rfl 0 (by decide) kX12_7 rfl dX12_inForce_28 ?_
      refine ii_iload 0 dX12_inForce_31 rfl ?_
      refine ii_iald h 1 0 rfl rfl dX12_inForce_33 (fun t_5 h => ?_)
      refine ii_iload_n 2 dX12_inForce_34 rfl ?_
      refine ii_jn h (fun j_6 => [(a_this, .inr (12, [.ref a_this_st, .ref a_this_images, .ref a_this_isKept, .long v_this_above, .long v_this_below, .int v_this_steps, .ref a_this_step, .ref a_this_with, .int v_this_waiting, .ref a_this_waits, .ref a_this_value, .ref a_this_given, .ref a_this_net, .ref a_this_together, .ref a_this_most, .ref a_this_owes, .ref a_this_can, .ref a_this_row, .ref a_this_before, .ref a_this_to, .ref a_this_on, .ref a_this_load, .ref a_this_lead, .ref a_this_bestLead, .ref a_this_silver])), (a_this_st, .inl (cI, 1951, .inl v_this_st))]) (fun j_6 => [(0, .ref a_this), (1, .int p0), (2, .int p1), (3, .int s_1.1), (4, .int s_1.2), (5, .int x_4)]) 56 (fun j_6 => [.int j_6]) (fun j_6 h => ?_) (fun j_6 h hjj_6 => ?_)
      · skip
        refine ii_istore (lv' := [(6, .int j_6), (0, .ref a_this), (1, .int p0), (2, .int p1), (3, .int s_1.1), (4, .int s_1.2), (5, .int x_4)]) dX12_inForce_56 (by decide) rfl ?_
        refine ii_iload 0 dX12_inForce_58 rfl ?_
        refine ii_jn h (fun j_8 => [(a_this, .inr (12, [.ref a_this_st, .ref a_this_images, .ref a_this_isKept, .long v_this_above, .long v_this_below, .int v_this_steps, .ref a_this_step, .ref a_this_with, .int v_this_waiting, .ref a_this_waits, .ref a_this_value, .ref a_this_given, .ref a_this_net, .ref a_this_together, .ref a_this_most, .ref a_this_owes, .ref a_this_can, .ref a_this_row, .ref a_this_before, .ref a_this_to, .ref a_this_on, .ref a_this_load, .ref a_this_lead, .ref a_this_bestLead, .ref a_this_silver])), (a_this_st, .inl (cI, 1951, .inl v_this_st))]) (fun j_8 => [(0, .ref a_this), (1, .int p0), (2, .int p1), (4, .int s_1.2)]) 101 (fun j_8 => [.int j_8]) (fun j_8 h => ?_) (fun j_8 h hjj_8 => ?_)
        · skip
          refine ii_istore_n (lv' := [(3, .int j_8), (0, .ref a_this), (1, .int p0), (2, .int p1), (4, .int s_1.2)]) dX12_inForce_101 rfl (by decide) rfl ?_
          refine ii_iinc (fun x_11 => [(4, .int x_11), (3, .int j_8), (0, .ref a_this), (1, .int p0), (2, .int p1)]) h 4 dX12_inForce_102 rfl kc1 (by decide) (fun _ => rfl) (fun x_11 h => ?_)
          refine ii_goto (tgt := 5) dX12_inForce_105 (by decide) ?_
          refine ii_lv [2, 3, 4, 1, 0] rfl ?_
          cases h
          exact hb_1 (j_8, x_11) rfl
        · skip
          refine ii_if_eq (tgt := 100) h dX12_inForce_60 (by decide) (fun h => ?_) (fun h => ?_)
          · skip
            refine ii_iload_n 4 dX12_inForce_100 rfl ?_
            refine ii_lv [1, 2, 3, 5] rfl ?_
            cases h
            exact hjj_8
          · skip
            refine ii_iload_n 4 dX12_inForce_63 rfl ?_
            refine ii_iconst dX12_inForce_64 kcm1 ?_
            refine ii_icmp_eq (tgt := 95) h dX12_inForce_65 (by decide) (fun h => ?_) (fun h => ?_)
            · skip
              refine ii_iload 5 dX12_inForce_95 rfl ?_
              refine ii_goto (tgt := 101) dX12_inForce_97 (by decide) ?_
              refine ii_lv [1, 2, 3, 5] rfl ?_
              cases h
              exact hjj_8
            · skip
              refine ii_aload_n 1 dX12_inForce_68 rfl ?_
              refine ii_get (C := RX12) (T := TX12) (N := 25) (ci := 12) izX12 0 rfl rfl 0 (by decide) kX12_7 rfl dX12_inForce_69 ?_
              refine ii_iload 6 dX12_inForce_72 rfl ?_
              refine ii_iconst dX12_inForce_74 kc1 ?_
              refine ii_iadd dX12_inForce_75 ?_
              refine ii_iald h 1 0 rfl rfl dX12_inForce_76 (fun t_9 h => ?_)
              refine ii_aload_n 1 dX12_inForce_77 rfl ?_
              refine ii_get (C := RX12) (T := TX12) (N := 25) (ci := 12) izX12 0 rfl rfl 0 (by decide) kX12_7 rfl dX12_inForce_78 ?_
              refine ii_sipush dX12_inForce_81 ks244 ?_
              refine ii_bipush dX12_inForce_84 kb53 ?_
              refine ii_iload_n 4 dX12_inForce_86 rfl ?_
              refine ii_imul dX12_inForce_87 ?_
              refine ii_iadd dX12_inForce_88 ?_
              refine ii_iconst dX12_inForce_89 kc1 ?_
              refine ii_iadd dX12_inForce_90 ?_
              refine ii_iald h 1 0 rfl rfl dX12_inForce_91 (fun t_10 h => ?_)
              refine ii_icmp_lt (tgt := 100) h dX12_inForce_92 (by decide) (fun h => ?_) (fun h => ?_)
              · skip
                refine ii_iload_n 4 dX12_inForce_100 rfl ?_
                refine ii_lv [1, 2, 3, 5] rfl ?_
                cases h
                exact hjj_8
              · skip
                refine ii_iload 5 dX12_inForce_95 rfl ?_
                refine ii_goto (tgt := 101) dX12_inForce_97 (by decide) ?_
                refine ii_lv [1, 2, 3, 5] rfl ?_
                cases h
                exact hjj_8
      · skip
        refine ii_icmp_ne (tgt := 55) h dX12_inForce_35 (by decide) (fun h => ?_) (fun h => ?_)
        · skip
          refine ii_iconst dX12_inForce_55 kc0 ?_
          refine ii_lv [1, 2, 3, 4, 5, 0] rfl ?_
          cases h
          exact hjj_6
        · skip
          refine ii_aload_n 1 dX12_inForce_38 rfl ?_
          refine ii_get (C := RX12) (T := TX12) (N := 25) (ci := 12) izX12 0 rfl rfl 0 (by decide) kX12_7 rfl dX12_inForce_39 ?_
          refine ii_iload 0 dX12_inForce_42 rfl ?_
          refine ii_iconst dX12_inForce_44 kc1 ?_
          refine ii_iadd dX12_inForce_45 ?_
          refine ii_iald h 1 0 rfl rfl dX12_inForce_46 (fun t_7 h => ?_)
          refine ii_iload_n 3 dX12_inForce_47 rfl ?_
          refine ii_icmp_gt (tgt := 55) h dX12_inForce_48 (by decide) (fun h => ?_) (fun h => ?_)
          · skip
            refine ii_iconst dX12_inForce_55 kc0 ?_
            refine ii_lv [1, 2, 3, 4, 5, 0] rfl ?_
            cases h
            exact hjj_6
          · skip
            refine ii_iconst dX12_inForce_51 kc1 ?_
            refine ii_goto (tgt := 56) dX12_inForce_52 (by decide) ?_
            refine ii_lv [1, 2, 3, 4, 5, 0] rfl ?_
            cases h
            exact hjj_6
set_option maxHeartbeats 4000000 in
set_option maxRecDepth 100000 in
theorem c_X12_force (l : Launch) (D : va_G) (cI cJ cZ cH : ClassId) (a_this a_this_before a_this_bestLead a_this_can a_this_given a_this_images a_this_isKept a_this_lead a_this_load a_this_most a_this_net a_this_on a_this_owes a_this_row a_this_silver a_this_st a_this_step a_this_to a_this_together a_this_value a_this_waits a_this_with : Nat) (v_this_above : Int64) (v_this_below : Int64) (v_this_st : Nat → Int32) (v_this_steps : Int32) (v_this_waiting : Int32) (p0 : Int32) (p1 : Int32) {res : Int32} (h : F_X12_force v_this_st p0 p1 = some res) : CTi l yX12_force wzX12_force { frames := 2, cells := 0, slots := 0, locals := 45 } D [(cI, .int), (cJ, .long), (cZ, .boolean), (cH, .object "TinHouse$House")] [.ref a_this, .int p0, .int p1] [(a_this, .inr (12, [.ref a_this_st, .ref a_this_images, .ref a_this_isKept, .long v_this_above, .long v_this_below, .int v_this_steps, .ref a_this_step, .ref a_this_with, .int v_this_waiting, .ref a_this_waits, .ref a_this_value, .ref a_this_given, .ref a_this_net, .ref a_this_together, .ref a_this_most, .ref a_this_owes, .ref a_this_can, .ref a_this_row, .ref a_this_before, .ref a_this_to, .ref a_this_on, .ref a_this_load, .ref a_this_lead, .ref a_this_bestLead, .ref a_this_silver])), (a_this_st, .inl (cI, 1951, .inl v_this_st))] res [(a_this, .inr (12, [.ref a_this_st, .ref a_this_images, .ref a_this_isKept, .long v_this_above, .long v_this_below, .int v_this_steps, .ref a_this_step, .ref a_this_with, .int v_this_waiting, .ref a_this_waits, .ref a_this_value, .ref a_this_given, .ref a_this_net, .ref a_this_together, .ref a_this_most, .ref a_this_owes, .ref a_this_can, .ref a_this_row, .ref a_this_before, .ref a_this_to, .ref a_this_on, .ref a_this_load, .ref a_this_lead, .ref a_this_bestLead, .ref a_this_silver])), (a_this_st, .inl (cI, 1951, .inl v_this_st))] := by
  unfold F_X12_force at h
  refine ii_metI (own := RX12) (lv0 := [(0, .ref a_this), (1, .int p0), (2, .int p1)]) (by decide) rfl rfl rfl (Nat.le_of_ble_eq_true rfl) (fun {p e s m args below meth c A Q} hQ => ?_)
  refine ii_iload_n 1 dX12_force_0 rfl ?_
  refine ii_i2l dX12_force_1 ?_
  refine ii_lconst dX12_force_2 kl0 ?_
  refine ii_ldc2 (v := 2) dX12_force_3 kX12_168 ?_
  obtain ⟨c_1, hc_1, h⟩ := bnd h
  refine ii_callSi (As := [.long p0.toInt64, .long (0 : Int64), .long (2 : Int64)]) (ws' := [(a_this, .inr (12, [.ref a_this_st, .ref a_this_images, .ref a_this_isKept, .long v_this_above, .long v_this_below, .int v_this_steps, .ref a_this_step, .ref a_this_with, .int v_this_waiting, .ref a_this_waits, .ref a_this_value, .ref a_this_given, .ref a_this_net, .ref a_this_together, .ref a_this_most, .ref a_this_owes, .ref a_this_can, .ref a_this_row, .ref a_this_before, .ref a_this_to, .ref a_this_on, .ref a_this_load, .ref a_this_lead, .ref a_this_bestLead, .ref a_this_silver])), (a_this_st, .inl (cI, 1951, .inl v_this_st))]) (st := []) (c_X12_in l D cI cJ cZ cH p0.toInt64 (0 : Int64) (2 : Int64) hc_1) gzX12_79 rfl rfl rfl eS_X12_in ⟨Nat.le_of_ble_eq_true rfl, Nat.le_of_ble_eq_true rfl⟩ rfl [] rfl rfl rfl rfl rfl (Nat.le_of_ble_eq_true rfl) (Nat.le_refl _) (Nat.le_refl _) rfl dX12_force_6 ?_
  refine ii_jn h (fun j_2 => [(a_this, .inr (12, [.ref a_this_st, .ref a_this_images, .ref a_this_isKept, .long v_this_above, .long v_this_below, .int v_this_steps, .ref a_this_step, .ref a_this_with, .int v_this_waiting, .ref a_this_waits, .ref a_this_value, .ref a_this_given, .ref a_this_net, .ref a_this_together, .ref a_this_most, .ref a_this_owes, .ref a_this_can, .ref a_this_row, .ref a_this_before, .ref a_this_to, .ref a_this_on, .ref a_this_load, .ref a_this_lead, .ref a_this_bestLead, .ref a_this_silver])), (a_this_st, .inl (cI, 1951, .inl v_this_st))]) (fun j_2 => []) 30 (fun j_2 => [.int j_2]) (fun j_2 h => ?_) (fun j_2 h hjj_2 => ?_)
  · skip
    cases h
    exact hQ _ _ dX12_force_30
  · skip
    refine ii_if_eq (tgt := 28) h dX12_force_9 (by decide) (fun h => ?_) (fun h => ?_)
    · skip
      refine ii_bipush dX12_force_28 kbm2 ?_
      refine ii_lv [] rfl ?_
      cases h
      exact hjj_2
    · skip
      refine ii_iload_n 2 dX12_force_12 rfl ?_
      obtain ⟨c_3, hc_3, h⟩ := bnd h
      refine ii_callSi (As := [.int p1]) (ws' := [(a_this, .inr (12, [.ref a_this_st, .ref a_this_images, .ref a_this_isKept, .long v_this_above, .long v_this_below, .int v_this_steps, .ref a_this_step, .ref a_this_with, .int v_this_waiting, .ref a_this_waits, .ref a_this_value, .ref a_this_given, .ref a_this_net, .ref a_this_together, .ref a_this_most, .ref a_this_owes, .ref a_this_can, .ref a_this_row, .ref a_this_before, .ref a_this_to, .ref a_this_on, .ref a_this_load, .ref a_this_lead, .ref a_this_bestLead, .ref a_this_silver])), (a_this_st, .inl (cI, 1951, .inl v_this_st))]) (st := []) (c_X12_isSeason l D cI cJ cZ cH p1 hc_3) gzX12_153 rfl rfl rfl eS_X12_isSeason ⟨Nat.le_of_ble_eq_true rfl, Nat.le_of_ble_eq_true rfl⟩ rfl [] rfl rfl rfl rfl rfl (Nat.le_of_ble_eq_true rfl) (Nat.le_refl _) (Nat.le_refl _) rfl dX12_force_13 ?_
      refine ii_if_eq (tgt := 28) h dX12_force_16 (by decide) (fun h => ?_) (fun h => ?_)
      · skip
        refine ii_bipush dX12_force_28 kbm2 ?_
        refine ii_lv [] rfl ?_
        cases h
        exact hjj_2
      · skip
        refine ii_aload_n 0 dX12_force_19 rfl ?_
        refine ii_iload_n 1 dX12_force_20 rfl ?_
        refine ii_iload_n 2 dX12_force_21 rfl ?_
        obtain ⟨c_4, hc_4, h⟩ := bnd h
        refine ii_callVi (As := [.int p0, .int p1]) (ws' := [(a_this, .inr (12, [.ref a_this_st, .ref a_this_images, .ref a_this_isKept, .long v_this_above, .long v_this_below, .int v_this_steps, .ref a_this_step, .ref a_this_with, .int v_this_waiting, .ref a_this_waits, .ref a_this_value, .ref a_this_given, .ref a_this_net, .ref a_this_together, .ref a_this_most, .ref a_this_owes, .ref a_this_can, .ref a_this_row, .ref a_this_before, .ref a_this_to, .ref a_this_on, .ref a_this_load, .ref a_this_lead, .ref a_this_bestLead, .ref a_this_silver])), (a_this_st, .inl (cI, 1951, .inl v_this_st))]) (st := []) (c_X12_inForce l D cI cJ cZ cH a_this a_this_before a_this_bestLead a_this_can a_this_given a_this_images a_this_isKept a_this_lead a_this_load a_this_most a_this_net a_this_on a_this_owes a_this_row a_this_silver a_this_st a_this_step a_this_to a_this_together a_this_value a_this_waits a_this_with v_this_above v_this_below v_this_st v_this_steps v_this_waiting p0 p1 hc_4) gzX12_170 rfl rfl rfl eV_X12_inForce ⟨Nat.le_of_ble_eq_true rfl, Nat.le_of_ble_eq_true rfl⟩ rfl 0 rfl rfl [0, 1] rfl rfl rfl rfl rfl (Nat.le_of_ble_eq_true rfl) (Nat.le_refl _) (Nat.le_refl _) rfl dX12_force_22 ?_
        refine ii_goto (tgt := 30) dX12_force_25 (by decide) ?_
        refine ii_lv [] rfl ?_
        cases h
        exact hjj_2
set_option maxHeartbeats 4000000 in
set_option maxRecDepth 100000 in
theorem c_X12_told (l : Launch) (D : va_G) (cI cJ cZ cH : ClassId) (a_this a_this_before a_this_bestLead a_this_can a_this_given a_this_images a_this_isKept a_this_lead a_this_load a_this_most a_this_net a_this_on a_this_owes a_this_row a_this_silver a_this_st a_this_step a_this_to a_this_together a_this_value a_this_waits a_this_with : Nat) (v_this_above : Int64) (v_this_below : Int64) (v_this_given : Nat → Int64) (v_this_st : Nat → Int32) (v_this_step : Nat → Int32) (v_this_steps : Int32) (v_this_value : Nat → Int64) (v_this_waiting : Int32) (v_this_waits : Nat → Int32) (v_this_with : Nat → Int32) (p0 : Int32) (p1 : Int32) (p2 : Int32) (p3 : Int32) (p4 : Int32) (p5 : Int64) (p6 : Int32) {res : Int32 × (Nat → Int64) × (Nat → Int32) × Int32 × (Nat → Int64) × Int32 × (Nat → Int32) × (Nat → Int32)} (h : F_X12_told v_this_given v_this_st v_this_step v_this_steps v_this_value v_this_waiting v_this_waits v_this_with p0 p1 p2 p3 p4 p5 p6 = some res) : CTi l yX12_told wzX12_told { frames := 4, cells := 0, slots := 0, locals := 93 } D [(cI, .int), (cJ, .long), (cZ, .boolean), (cH, .object "TinHouse$House")] [.ref a_this, .int p0, .int p1, .int p2, .int p3, .int p4, .long p5, .int p6] [(a_this, .inr (12, [.ref a_this_st, .ref a_this_images, .ref a_this_isKept, .long v_this_above, .long v_this_below, .int v_this_steps, .ref a_this_step, .ref a_this_with, .int v_this_waiting, .ref a_this_waits, .ref a_this_value, .ref a_this_given, .ref a_this_net, .ref a_this_together, .ref a_this_most, .ref a_this_owes, .ref a_this_can, .ref a_this_row, .ref a_this_before, .ref a_this_to, .ref a_this_on, .ref a_this_load, .ref a_this_lead, .ref a_this_bestLead, .ref a_this_silver])), (a_this_given, .inl (cJ, 5, .inr (.inl v_this_given))), (a_this_st, .inl (cI, 1951, .inl v_this_st)), (a_this_step, .inl (cI, 70, .inl v_this_step)), (a_this_value, .inl (cJ, 70, .inr (.inl v_this_value))), (a_this_waits, .inl (cI, 70, .inl v_this_waits)), (a_this_with, .inl (cI, 70, .inl v_this_with))] res.1 [(a_this, .inr (12, [.ref a_this_st, .ref a_this_images, .ref a_this_isKept, .long v_this_above, .long v_this_below, .int res.2.2.2.1, .ref a_this_step, .ref a_this_with, .int res.2.2.2.2.2.1, .ref a_this_waits, .ref a_this_value, .ref a_this_given, .ref a_this_net, .ref a_this_together, .ref a_this_most, .ref a_this_owes, .ref a_this_can, .ref a_this_row, .ref a_this_before, .ref a_this_to, .ref a_this_on, .ref a_this_load, .ref a_this_lead, .ref a_this_bestLead, .ref a_this_silver])), (a_this_given, .inl (cJ, 5, .inr (.inl res.2.1))), (a_this_st, .inl (cI, 1951, .inl v_this_st)), (a_this_step, .inl (cI, 70, .inl res.2.2.1)), (a_this_value, .inl (cJ, 70, .inr (.inl res.2.2.2.2.1))), (a_this_waits, .inl (cI, 70, .inl res.2.2.2.2.2.2.1)), (a_this_with, .inl (cI, 70, .inl res.2.2.2.2.2.2.2))] := by
  unfold F_X12_told at h
  refine ii_metI (own := RX12) (lv0 := [(0, .ref a_this), (1, .int p0), (2, .int p1), (3, .int p2), (4, .int p3), (5, .int p4), (6, .long p5), (8, .int p6)]) (by decide) rfl rfl rfl (Nat.le_of_ble_eq_true rfl) (fun {p e s m args below meth c A Q} hQ => ?_)
  refine ii_aload_n 0 dX12_told_0 rfl ?_
  refine ii_iload_n 1 dX12_told_1 rfl ?_
  refine ii_iload 5 dX12_told_2 rfl ?_
  obtain ⟨c_1, hc_1, h⟩ := bnd h
  refine ii_callVi (As := [.int p0, .int p4]) (ws' := [(a_this, .inr (12, [.ref a_this_st, .ref a_this_images, .ref a_this_isKept, .long v_this_above, .long v_this_below, .int v_this_steps, .ref a_this_step, .ref a_this_with, .int v_this_waiting, .ref a_this_waits, .ref a_this_value, .ref a_this_given, .ref a_this_net, .ref a_this_together, .ref a_this_most, .ref a_this_owes, .ref a_this_can, .ref a_this_row, .ref a_this_before, .ref a_this_to, .ref a_this_on, .ref a_this_load, .ref a_this_lead, .ref a_this_bestLead, .ref a_this_silver])), (a_this_given, .inl (cJ, 5, .inr (.inl v_this_given))), (a_this_st, .inl (cI, 1951, .inl v_this_st)), (a_this_step, .inl (cI, 70, .inl v_this_step)), (a_this_value, .inl (cJ, 70, .inr (.inl v_this_value))), (a_this_waits, .inl (cI, 70, .inl v_this_waits)), (a_this_with, .inl (cI, 70, .inl v_this_with))]) (st := []) (c_X12_inForce l D cI cJ cZ cH a_this a_this_before a_this_bestLead a_this_can a_this_given a_this_images a_this_isKept a_this_lead a_this_load a_this_most a_this_net a_this_on a_this_owes a_this_row a_this_silver a_this_st a_this_step a_this_to a_this_together a_this_value a_this_waits a_this_with v_this_above v_this_below v_this_st v_this_steps v_this_waiting p0 p4 hc_1) gzX12_170 rfl rfl rfl eV_X12_inForce ⟨Nat.le_of_ble_eq_true rfl, Nat.le_of_ble_eq_true rfl⟩ rfl 0 rfl rfl [0, 2] rfl rfl rfl rfl rfl (Nat.le_of_ble_eq_true rfl) (Nat.le_refl _) (Nat.le_refl _) rfl dX12_told_4 ?_
  refine ii_istore (lv' := [(9, .int c_1), (0, .ref a_this), (1, .int p0), (2, .int p1), (3, .int p2), (4, .int p3), (5, .int p4), (6, .long p5), (8, .int p6)]) dX12_told_7 (by decide) rfl ?_
  refine ii_iload 0 dX12_told_9 rfl ?_
  refine ii_iconst dX12_told_11 kcm1 ?_
  refine ii_icmp_ne (tgt := 36) h dX12_told_12 (by decide) (fun h => ?_) (fun h => ?_)
  · skip
    refine ii_aload_n 1 dX12_told_36 rfl ?_
    refine ii_sipush dX12_told_37 ks244 ?_
    refine ii_bipush dX12_told_40 kb53 ?_
    refine ii_iload 0 dX12_told_42 rfl ?_
    refine ii_imul dX12_told_44 ?_
    refine ii_iadd dX12_told_45 ?_
    refine ii_iconst dX12_told_46 kc2 ?_
    refine ii_iadd dX12_told_47 ?_
    obtain ⟨c_2, hc_2, h⟩ := bnd h
    refine ii_callVi (As := [.int (((244 : Int32) + ((53 : Int32) * c_1)) + (2 : Int32))]) (ws' := [(a_this, .inr (12, [.ref a_this_st, .ref a_this_images, .ref a_this_isKept, .long v_this_above, .long v_this_below, .int c_2.2.2.1, .ref a_this_step, .ref a_this_with, .int c_2.2.2.2.1, .ref a_this_waits, .ref a_this_value, .ref a_this_given, .ref a_this_net, .ref a_this_together, .ref a_this_most, .ref a_this_owes, .ref a_this_can, .ref a_this_row, .ref a_this_before, .ref a_this_to, .ref a_this_on, .ref a_this_load, .ref a_this_lead, .ref a_this_bestLead, .ref a_this_silver])), (a_this_given, .inl (cJ, 5, .inr (.inl v_this_given))), (a_this_st, .inl (cI, 1951, .inl v_this_st)), (a_this_step, .inl (cI, 70, .inl c_2.2.1)), (a_this_value, .inl (cJ, 70, .inr (.inl v_this_value))), (a_this_waits, .inl (cI, 70, .inl c_2.2.2.2.2.1)), (a_this_with, .inl (cI, 70, .inl c_2.2.2.2.2.2))]) (st := []) (c_X12_reads l D cI cJ cZ cH a_this a_this_before a_this_bestLead a_this_can a_this_given a_this_images a_this_isKept a_this_lead a_this_load a_this_most a_this_net a_this_on a_this_owes a_this_row a_this_silver a_this_st a_this_step a_this_to a_this_together a_this_value a_this_waits a_this_with v_this_above v_this_below v_this_st v_this_step v_this_steps v_this_waiting v_this_waits v_this_with (((244 : Int32) + ((53 : Int32) * c_1)) + (2 : Int32)) hc_2) gzX12_148 rfl rfl rfl eV_X12_reads ⟨Nat.le_of_ble_eq_true rfl, Nat.le_of_ble_eq_true rfl⟩ rfl 0 rfl rfl [0, 2, 3, 5, 6] rfl rfl rfl rfl rfl (Nat.le_of_ble_eq_true rfl) (Nat.le_refl _) (Nat.le_refl _) rfl dX12_told_48 ?_
    refine ii_pop dX12_told_51 rfl ?_
    refine ii_aload_n 1 dX12_told_52 rfl ?_
    refine ii_iload_n 3 dX12_told_53 rfl ?_
    refine ii_iload_n 4 dX12_told_54 rfl ?_
    refine ii_iload 5 dX12_told_55 rfl ?_
    refine ii_iload 6 dX12_told_57 rfl ?_
    refine ii_lload 7 dX12_told_59 rfl ?_
    obtain ⟨c_3, hc_3, h⟩ := bnd h
    refine ii_callVv (As := [.int p1, .int p2, .int p3, .int p4, .long p5]) (ws' := [(a_this, .inr (12, [.ref a_this_st, .ref a_this_images, .ref a_this_isKept, .long v_this_above, .long v_this_below, .int c_2.2.2.1, .ref a_this_step, .ref a_this_with, .int c_2.2.2.2.1, .ref a_this_waits, .ref a_this_value, .ref a_this_given, .ref a_this_net, .ref a_this_together, .ref a_this_most, .ref a_this_owes, .ref a_this_can, .ref a_this_row, .ref a_this_before, .ref a_this_to, .ref a_this_on, .ref a_this_load, .ref a_this_lead, .ref a_this_bestLead, .ref a_this_silver])), (a_this_given, .inl (cJ, 5, .inr (.inl c_3))), (a_this_st, .inl (cI, 1951, .inl v_this_st)), (a_this_step, .inl (cI, 70, .inl c_2.2.1)), (a_this_value, .inl (cJ, 70, .inr (.inl v_this_value))), (a_this_waits, .inl (cI, 70, .inl c_2.2.2.2.2.1)), (a_this_with, .inl (cI, 70, .inl c_2.2.2.2.2.2))]) (st := []) (c_X12_gives l D cI cJ cZ cH a_this a_this_before a_this_bestLead a_this_can a_this_given a_this_images a_this_isKept a_this_lead a_this_load a_this_most a_this_net a_this_on a_this_owes a_this_row a_this_silver a_this_st a_this_step a_this_to a_this_together a_this_value a_this_waits a_this_with v_this_above v_this_below v_this_given c_2.2.2.1 c_2.2.2.2.1 p1 p2 p3 p4 p5 hc_3) gzX12_160 rfl rfl rfl eV_X12_gives ⟨Nat.le_of_ble_eq_true rfl, Nat.le_of_ble_eq_true rfl⟩ rfl 0 rfl rfl [0, 1] rfl rfl rfl rfl rfl (Nat.le_of_ble_eq_true rfl) (Nat.le_refl _) (Nat.le_refl _) rfl dX12_told_61 ?_
    refine ii_aload_n 1 dX12_told_64 rfl ?_
    obtain ⟨c_4, hc_4, h⟩ := bnd h
    refine ii_callVl (As := []) (ws' := [(a_this, .inr (12, [.ref a_this_st, .ref a_this_images, .ref a_this_isKept, .long v_this_above, .long v_this_below, .int c_2.2.2.1, .ref a_this_step, .ref a_this_with, .int c_2.2.2.2.1, .ref a_this_waits, .ref a_this_value, .ref a_this_given, .ref a_this_net, .ref a_this_together, .ref a_this_most, .ref a_this_owes, .ref a_this_can, .ref a_this_row, .ref a_this_before, .ref a_this_to, .ref a_this_on, .ref a_this_load, .ref a_this_lead, .ref a_this_bestLead, .ref a_this_silver])), (a_this_given, .inl (cJ, 5, .inr (.inl c_3))), (a_this_st, .inl (cI, 1951, .inl v_this_st)), (a_this_step, .inl (cI, 70, .inl c_2.2.1)), (a_this_value, .inl (cJ, 70, .inr (.inl c_4.2))), (a_this_waits, .inl (cI, 70, .inl c_2.2.2.2.2.1)), (a_this_with, .inl (cI, 70, .inl c_2.2.2.2.2.2))]) (st := []) (c_X12_tellsOf l D cI cJ cZ cH a_this a_this_before a_this_bestLead a_this_can a_this_given a_this_images a_this_isKept a_this_lead a_this_load a_this_most a_this_net a_this_on a_this_owes a_this_row a_this_silver a_this_st a_this_step a_this_to a_this_together a_this_value a_this_waits a_this_with v_this_above v_this_below c_3 c_2.2.1 c_2.2.2.1 v_this_value c_2.2.2.2.1 c_2.2.2.2.2.2 hc_4) gzX12_164 rfl rfl rfl eV_X12_tellsOf ⟨Nat.le_of_ble_eq_true rfl, Nat.le_of_ble_eq_true rfl⟩ rfl 0 rfl rfl [0, 1, 3, 4, 6] rfl rfl rfl rfl rfl (Nat.le_of_ble_eq_true rfl) (Nat.le_refl _) (Nat.le_refl _) rfl dX12_told_65 ?_
    refine ii_lstore (lv' := [(10, .long c_4.1), (9, .int c_1), (0, .ref a_this), (1, .int p0), (2, .int p1), (3, .int p2), (4, .int p3), (5, .int p4), (6, .long p5), (8, .int p6)]) dX12_told_68 (by decide) rfl ?_
    refine ii_lload 0 dX12_told_70 rfl ?_
    refine ii_lconst dX12_told_72 kl0 ?_
    refine ii_jn h (fun j_5 => [(a_this, .inr (12, [.ref a_this_st, .ref a_this_images, .ref a_this_isKept, .long v_this_above, .long v_this_below, .int c_2.2.2.1, .ref a_this_step, .ref a_this_with, .int c_2.2.2.2.1, .ref a_this_waits, .ref a_this_value, .ref a_this_given, .ref a_this_net, .ref a_this_together, .ref a_this_most, .ref a_this_owes, .ref a_this_can, .ref a_this_row, .ref a_this_before, .ref a_this_to, .ref a_this_on, .ref a_this_load, .ref a_this_lead, .ref a_this_bestLead, .ref a_this_silver])), (a_this_given, .inl (cJ, 5, .inr (.inl c_3))), (a_this_st, .inl (cI, 1951, .inl v_this_st)), (a_this_step, .inl (cI, 70, .inl c_2.2.1)), (a_this_value, .inl (cJ, 70, .inr (.inl c_4.2))), (a_this_waits, .inl (cI, 70, .inl c_2.2.2.2.2.1)), (a_this_with, .inl (cI, 70, .inl c_2.2.2.2.2.2))]) (fun j_5 => []) 98 (fun j_5 => [.int j_5]) (fun j_5 h => ?_) (fun j_5 h hjj_5 => ?_)
    · skip
      cases h
      exact hQ _ _ dX12_told_98
    · skip
      refine ii_lcmp_ge (tgt := 81) h dX12_told_73 dX12_told_74 (by decide) (fun h => ?_) (fun h => ?_)
      · skip
        refine ii_lload 0 dX12_told_81 rfl ?_
        refine ii_iload 9 dX12_told_83 rfl ?_
        refine ii_i2l dX12_told_85 ?_
        refine ii_lcmp_le (tgt := 95) h dX12_told_86 dX12_told_87 (by decide) (fun h => ?_) (fun h => ?_)
        · skip
          refine ii_lload 0 dX12_told_95 rfl ?_
          refine ii_l2i dX12_told_97 ?_
          refine ii_lv [] rfl ?_
          cases h
          exact hjj_5
        · skip
          refine ii_iload 9 dX12_told_90 rfl ?_
          refine ii_goto (tgt := 98) dX12_told_92 (by decide) ?_
          refine ii_lv [] rfl ?_
          cases h
          exact hjj_5
      · skip
        refine ii_iconst dX12_told_77 kc0 ?_
        refine ii_goto (tgt := 98) dX12_told_78 (by decide) ?_
        refine ii_lv [] rfl ?_
        cases h
        exact hjj_5
  · skip
    refine ii_iload_n 2 dX12_told_15 rfl ?_
    refine ii_jn h (fun j_6 => [(a_this, .inr (12, [.ref a_this_st, .ref a_this_images, .ref a_this_isKept, .long v_this_above, .long v_this_below, .int v_this_steps, .ref a_this_step, .ref a_this_with, .int v_this_waiting, .ref a_this_waits, .ref a_this_value, .ref a_this_given, .ref a_this_net, .ref a_this_together, .ref a_this_most, .ref a_this_owes, .ref a_this_can, .ref a_this_row, .ref a_this_before, .ref a_this_to, .ref a_this_on, .ref a_this_load, .ref a_this_lead, .ref a_this_bestLead, .ref a_this_silver])), (a_this_given, .inl (cJ, 5, .inr (.inl v_this_given))), (a_this_st, .inl (cI, 1951, .inl v_this_st)), (a_this_step, .inl (cI, 70, .inl v_this_step)), (a_this_value, .inl (cJ, 70, .inr (.inl v_this_value))), (a_this_waits, .inl (cI, 70, .inl v_this_waits)), (a_this_with, .inl (cI, 70, .inl v_this_with))]) (fun j_6 => []) 35 (fun j_6 => [.int j_6]) (fun j_6 h => ?_) (fun j_6 h hjj_6 => ?_)
    · skip
      cases h
      exact hQ _ _ dX12_told_35
    · skip
      refine ii_if_ne (tgt := 23) h dX12_told_16 (by decide) (fun h => ?_) (fun h => ?_)
      · skip
        refine ii_iload_n 2 dX12_told_23 rfl ?_
        refine ii_iconst dX12_told_24 kc1 ?_
        refine ii_icmp_ne (tgt := 33) h dX12_told_25 (by decide) (fun h => ?_) (fun h => ?_)
        · skip
          refine ii_bipush dX12_told_33 kb100 ?_
          refine ii_lv [] rfl ?_
          cases h
          exact hjj_6
        · skip
          refine ii_bipush dX12_told_28 kb30 ?_
          refine ii_goto (tgt := 35) dX12_told_30 (by decide) ?_
          refine ii_lv [] rfl ?_
          cases h
          exact hjj_6
      · skip
        refine ii_iconst dX12_told_19 kc5 ?_
        refine ii_goto (tgt := 35) dX12_told_20 (by decide) ?_
        refine ii_lv [] rfl ?_
        cases h
        exact hjj_6
set_option maxHeartbeats 4000000 in
set_option maxRecDepth 100000 in
theorem c_X12_debtOf (l : Launch) (D : va_G) (cI cJ cZ cH : ClassId) (a_this a_this_before a_this_bestLead a_this_can a_this_given a_this_images a_this_isKept a_this_lead a_this_load a_this_most a_this_net a_this_on a_this_owes a_this_row a_this_silver a_this_st a_this_step a_this_to a_this_together a_this_value a_this_waits a_this_with : Nat) (v_this_above : Int64) (v_this_below : Int64) (v_this_st : Nat → Int32) (v_this_steps : Int32) (v_this_waiting : Int32) (p0 : Int32) (p1 : Int32) {res : Int32} (h : F_X12_debtOf v_this_st p0 p1 = some res) : CTi l yX12_debtOf wzX12_debtOf { frames := 0, cells := 0, slots := 0, locals := 0 } D [(cI, .int), (cJ, .long), (cZ, .boolean), (cH, .object "TinHouse$House")] [.ref a_this, .int p0, .int p1] [(a_this, .inr (12, [.ref a_this_st, .ref a_this_images, .ref a_this_isKept, .long v_this_above, .long v_this_below, .int v_this_steps, .ref a_this_step, .ref a_this_with, .int v_this_waiting, .ref a_this_waits, .ref a_this_value, .ref a_this_given, .ref a_this_net, .ref a_this_together, .ref a_this_most, .ref a_this_owes, .ref a_this_can, .ref a_this_row, .ref a_this_before, .ref a_this_to, .ref a_this_on, .ref a_this_load, .ref a_this_lead, .ref a_this_bestLead, .ref a_this_silver])), (a_this_st, .inl (cI, 1951, .inl v_this_st))] res [(a_this, .inr (12, [.ref a_this_st, .ref a_this_images, .ref a_this_isKept, .long v_this_above, .long v_this_below, .int v_this_steps, .ref a_this_step, .ref a_this_with, .int v_this_waiting, .ref a_this_waits, .ref a_this_value, .ref a_this_given, .ref a_this_net, .ref a_this_together, .ref a_this_most, .ref a_this_owes, .ref a_this_can, .ref a_this_row, .ref a_this_before, .ref a_this_to, .ref a_this_on, .ref a_this_load, .ref a_this_lead, .ref a_this_bestLead, .ref a_this_silver])), (a_this_st, .inl (cI, 1951, .inl v_this_st))] := by
  unfold F_X12_debtOf at h
  refine ii_metI (own := RX12) (lv0 := [(0, .ref a_this), (1, .int p0), (2, .int p1)]) (by decide) rfl rfl rfl (Nat.le_of_ble_eq_true rfl) (fun {p e s m args below meth c A Q} hQ => ?_)
  refine ii_aload_n 0 dX12_debtOf_0 rfl ?_
  refine ii_get (C := RX12) (T := TX12) (N := 25) (ci := 12) izX12 0 rfl rfl 0 (by decide) kX12_7 rfl dX12_debtOf_1 ?_
  refine ii_sipush dX12_debtOf_4 ks1092 ?_
  refine ii_bipush dX12_debtOf_7 kb7 ?_
  refine ii_iload_n 1 dX12_debtOf_9 rfl ?_
  refine ii_imul dX12_debtOf_10 ?_
  refine ii_iadd dX12_debtOf_11 ?_
  refine ii_iload_n 2 dX12_debtOf_12 rfl ?_
  refine ii_iadd dX12_debtOf_13 ?_
  refine ii_iald h 1 0 rfl rfl dX12_debtOf_14 (fun t_1 h => ?_)
  cases h
  exact hQ _ _ dX12_debtOf_15
set_option maxHeartbeats 4000000 in
set_option maxRecDepth 100000 in
theorem c_X12_debt (l : Launch) (D : va_G) (cI cJ cZ cH : ClassId) (a_this a_this_before a_this_bestLead a_this_can a_this_given a_this_images a_this_isKept a_this_lead a_this_load a_this_most a_this_net a_this_on a_this_owes a_this_row a_this_silver a_this_st a_this_step a_this_to a_this_together a_this_value a_this_waits a_this_with : Nat) (v_this_above : Int64) (v_this_below : Int64) (v_this_st : Nat → Int32) (v_this_steps : Int32) (v_this_waiting : Int32) (p0 : Int32) (p1 : Int32) (p2 : Int32) (p3 : Int32) (p4 : Int32) {res : Int32 × (Nat → Int32)} (h : F_X12_debt v_this_st p0 p1 p2 p3 p4 = some res) : CTi l yX12_debt wzX12_debt { frames := 2, cells := 0, slots := 0, locals := 47 } D [(cI, .int), (cJ, .long), (cZ, .boolean), (cH, .object "TinHouse$House")] [.ref a_this, .int p0, .int p1, .int p2, .int p3, .int p4] [(a_this, .inr (12, [.ref a_this_st, .ref a_this_images, .ref a_this_isKept, .long v_this_above, .long v_this_below, .int v_this_steps, .ref a_this_step, .ref a_this_with, .int v_this_waiting, .ref a_this_waits, .ref a_this_value, .ref a_this_given, .ref a_this_net, .ref a_this_together, .ref a_this_most, .ref a_this_owes, .ref a_this_can, .ref a_this_row, .ref a_this_before, .ref a_this_to, .ref a_this_on, .ref a_this_load, .ref a_this_lead, .ref a_this_bestLead, .ref a_this_silver])), (a_this_st, .inl (cI, 1951, .inl v_this_st))] res.1 [(a_this, .inr (12, [.ref a_this_st, .ref a_this_images, .ref a_this_isKept, .long v_this_above, .long v_this_below, .int v_this_steps, .ref a_this_step, .ref a_this_with, .int v_this_waiting, .ref a_this_waits, .ref a_this_value, .ref a_this_given, .ref a_this_net, .ref a_this_together, .ref a_this_most, .ref a_this_owes, .ref a_this_can, .ref a_this_row, .ref a_this_before, .ref a_this_to, .ref a_this_on, .ref a_this_load, .ref a_this_lead, .ref a_this_bestLead, .ref a_this_silver])), (a_this_st, .inl (cI, 1951, .inl res.2))] := by
  unfold F_X12_debt at h
  refine ii_metI (own := RX12) (lv0 := [(0, .ref a_this), (1, .int p0), (2, .int p1), (3, .int p2), (4, .int p3), (5, .int p4)]) (by decide) rfl rfl rfl (Nat.le_of_ble_eq_true rfl) (fun {p e s m args below meth c A Q} hQ => ?_)
  refine ii_aload_n 0 dX12_debt_0 rfl ?_
  refine ii_iconst dX12_debt_1 kc0 ?_
  refine ii_iload_n 1 dX12_debt_2 rfl ?_
  obtain ⟨c_1, hc_1, h⟩ := bnd h
  refine ii_callVi (As := [.int (0 : Int32), .int p0]) (ws' := [(a_this, .inr (12, [.ref a_this_st, .ref a_this_images, .ref a_this_isKept, .long v_this_above, .long v_this_below, .int v_this_steps, .ref a_this_step, .ref a_this_with, .int v_this_waiting, .ref a_this_waits, .ref a_this_value, .ref a_this_given, .ref a_this_net, .ref a_this_together, .ref a_this_most, .ref a_this_owes, .ref a_this_can, .ref a_this_row, .ref a_this_before, .ref a_this_to, .ref a_this_on, .ref a_this_load, .ref a_this_lead, .ref a_this_bestLead, .ref a_this_silver])), (a_this_st, .inl (cI, 1951, .inl v_this_st))]) (st := []) (c_X12_is l D cI cJ cZ cH a_this a_this_before a_this_bestLead a_this_can a_this_given a_this_images a_this_isKept a_this_lead a_this_load a_this_most a_this_net a_this_on a_this_owes a_this_row a_this_silver a_this_st a_this_step a_this_to a_this_together a_this_value a_this_waits a_this_with v_this_above v_this_below v_this_st v_this_steps v_this_waiting (0 : Int32) p0 hc_1) gzX12_173 rfl rfl rfl eV_X12_is ⟨Nat.le_of_ble_eq_true rfl, Nat.le_of_ble_eq_true rfl⟩ rfl 0 rfl rfl [0, 1] rfl rfl rfl rfl rfl (Nat.le_of_ble_eq_true rfl) (Nat.le_refl _) (Nat.le_refl _) rfl dX12_debt_3 ?_
  refine ii_if_eq (tgt := 58) h dX12_debt_6 (by decide) (fun h => ?_) (fun h => ?_)
  · skip
    refine ii_bipush dX12_debt_58 kbm2 ?_
    cases h
    exact hQ _ _ dX12_debt_60
  · skip
    refine ii_aload_n 0 dX12_debt_9 rfl ?_
    refine ii_iconst dX12_debt_10 kc0 ?_
    refine ii_iload_n 2 dX12_debt_11 rfl ?_
    obtain ⟨c_2, hc_2, h⟩ := bnd h
    refine ii_callVi (As := [.int (0 : Int32), .int p1]) (ws' := [(a_this, .inr (12, [.ref a_this_st, .ref a_this_images, .ref a_this_isKept, .long v_this_above, .long v_this_below, .int v_this_steps, .ref a_this_step, .ref a_this_with, .int v_this_waiting, .ref a_this_waits, .ref a_this_value, .ref a_this_given, .ref a_this_net, .ref a_this_together, .ref a_this_most, .ref a_this_owes, .ref a_this_can, .ref a_this_row, .ref a_this_before, .ref a_this_to, .ref a_this_on, .ref a_this_load, .ref a_this_lead, .ref a_this_bestLead, .ref a_this_silver])), (a_this_st, .inl (cI, 1951, .inl v_this_st))]) (st := []) (c_X12_is l D cI cJ cZ cH a_this a_this_before a_this_bestLead a_this_can a_this_given a_this_images a_this_isKept a_this_lead a_this_load a_this_most a_this_net a_this_on a_this_owes a_this_row a_this_silver a_this_st a_this_step a_this_to a_this_together a_this_value a_this_waits a_this_with v_this_above v_this_below v_this_st v_this_steps v_this_waiting (0 : Int32) p1 hc_2) gzX12_173 rfl rfl rfl eV_X12_is ⟨Nat.le_of_ble_eq_true rfl, Nat.le_of_ble_eq_true rfl⟩ rfl 0 rfl rfl [0, 1] rfl rfl rfl rfl rfl (Nat.le_of_ble_eq_true rfl) (Nat.le_refl _) (Nat.le_refl _) rfl dX12_debt_12 ?_
    refine ii_if_eq (tgt := 58) h dX12_debt_15 (by decide) (fun h => ?_) (fun h => ?_)
    · skip
      refine ii_bipush dX12_debt_58 kbm2 ?_
      cases h
      exact hQ _ _ dX12_debt_60
    · skip
      refine ii_iload_n 1 dX12_debt_18 rfl ?_
      refine ii_iload_n 2 dX12_debt_19 rfl ?_
      refine ii_icmp_eq (tgt := 58) h dX12_debt_20 (by decide) (fun h => ?_) (fun h => ?_)
      · skip
        refine ii_bipush dX12_debt_58 kbm2 ?_
        cases h
        exact hQ _ _ dX12_debt_60
      · skip
        refine ii_iload_n 3 dX12_debt_23 rfl ?_
        refine ii_i2l dX12_debt_24 ?_
        refine ii_lconst dX12_debt_25 kl1 ?_
        refine ii_ldc2 (v := 1000000) dX12_debt_26 kX12_177 ?_
        obtain ⟨c_3, hc_3, h⟩ := bnd h
        refine ii_callSi (As := [.long p2.toInt64, .long (1 : Int64), .long (1000000 : Int64)]) (ws' := [(a_this, .inr (12, [.ref a_this_st, .ref a_this_images, .ref a_this_isKept, .long v_this_above, .long v_this_below, .int v_this_steps, .ref a_this_step, .ref a_this_with, .int v_this_waiting, .ref a_this_waits, .ref a_this_value, .ref a_this_given, .ref a_this_net, .ref a_this_together, .ref a_this_most, .ref a_this_owes, .ref a_this_can, .ref a_this_row, .ref a_this_before, .ref a_this_to, .ref a_this_on, .ref a_this_load, .ref a_this_lead, .ref a_this_bestLead, .ref a_this_silver])), (a_this_st, .inl (cI, 1951, .inl v_this_st))]) (st := []) (c_X12_in l D cI cJ cZ cH p2.toInt64 (1 : Int64) (1000000 : Int64) hc_3) gzX12_79 rfl rfl rfl eS_X12_in ⟨Nat.le_of_ble_eq_true rfl, Nat.le_of_ble_eq_true rfl⟩ rfl [] rfl rfl rfl rfl rfl (Nat.le_of_ble_eq_true rfl) (Nat.le_refl _) (Nat.le_refl _) rfl dX12_debt_29 ?_
        refine ii_if_eq (tgt := 58) h dX12_debt_32 (by decide) (fun h => ?_) (fun h => ?_)
        · skip
          refine ii_bipush dX12_debt_58 kbm2 ?_
          cases h
          exact hQ _ _ dX12_debt_60
        · skip
          refine ii_iload 4 dX12_debt_35 rfl ?_
          obtain ⟨c_4, hc_4, h⟩ := bnd h
          refine ii_callSi (As := [.int p3]) (ws' := [(a_this, .inr (12, [.ref a_this_st, .ref a_this_images, .ref a_this_isKept, .long v_this_above, .long v_this_below, .int v_this_steps, .ref a_this_step, .ref a_this_with, .int v_this_waiting, .ref a_this_waits, .ref a_this_value, .ref a_this_given, .ref a_this_net, .ref a_this_together, .ref a_this_most, .ref a_this_owes, .ref a_this_can, .ref a_this_row, .ref a_this_before, .ref a_this_to, .ref a_this_on, .ref a_this_load, .ref a_this_lead, .ref a_this_bestLead, .ref a_this_silver])), (a_this_st, .inl (cI, 1951, .inl v_this_st))]) (st := []) (c_X12_isSeason l D cI cJ cZ cH p3 hc_4) gzX12_153 rfl rfl rfl eS_X12_isSeason ⟨Nat.le_of_ble_eq_true rfl, Nat.le_of_ble_eq_true rfl⟩ rfl [] rfl rfl rfl rfl rfl (Nat.le_of_ble_eq_true rfl) (Nat.le_refl _) (Nat.le_refl _) rfl dX12_debt_37 ?_
          refine ii_if_eq (tgt := 58) h dX12_debt_40 (by decide) (fun h => ?_) (fun h => ?_)
          · skip
            refine ii_bipush dX12_debt_58 kbm2 ?_
            cases h
            exact hQ _ _ dX12_debt_60
          · skip
            refine ii_iload 5 dX12_debt_43 rfl ?_
            refine ii_i2l dX12_debt_45 ?_
            refine ii_iload 4 dX12_debt_46 rfl ?_
            refine ii_i2l dX12_debt_48 ?_
            refine ii_ldc2 (v := 99) dX12_debt_49 kX12_83 ?_
            obtain ⟨c_5, hc_5, h⟩ := bnd h
            refine ii_callSi (As := [.long p4.toInt64, .long p3.toInt64, .long (99 : Int64)]) (ws' := [(a_this, .inr (12, [.ref a_this_st, .ref a_this_images, .ref a_this_isKept, .long v_this_above, .long v_this_below, .int v_this_steps, .ref a_this_step, .ref a_this_with, .int v_this_waiting, .ref a_this_waits, .ref a_this_value, .ref a_this_given, .ref a_this_net, .ref a_this_together, .ref a_this_most, .ref a_this_owes, .ref a_this_can, .ref a_this_row, .ref a_this_before, .ref a_this_to, .ref a_this_on, .ref a_this_load, .ref a_this_lead, .ref a_this_bestLead, .ref a_this_silver])), (a_this_st, .inl (cI, 1951, .inl v_this_st))]) (st := []) (c_X12_in l D cI cJ cZ cH p4.toInt64 p3.toInt64 (99 : Int64) hc_5) gzX12_79 rfl rfl rfl eS_X12_in ⟨Nat.le_of_ble_eq_true rfl, Nat.le_of_ble_eq_true rfl⟩ rfl [] rfl rfl rfl rfl rfl (Nat.le_of_ble_eq_true rfl) (Nat.le_refl _) (Nat.le_refl _) rfl dX12_debt_52 ?_
            refine ii_if_ne (tgt := 61) h dX12_debt_55 (by decide) (fun h => ?_) (fun h => ?_)
            · skip
              refine ii_aload_n 0 dX12_debt_61 rfl ?_
              refine ii_get (C := RX12) (T := TX12) (N := 25) (ci := 12) izX12 0 rfl rfl 0 (by decide) kX12_7 rfl dX12_debt_62 ?_
              refine ii_iconst dX12_debt_65 kc2 ?_
              refine ii_iald h 1 0 rfl rfl dX12_debt_66 (fun t_6 h => ?_)
              refine ii_bipush dX12_debt_67 kb40 ?_
              refine ii_icmp_ne (tgt := 75) h dX12_debt_69 (by decide) (fun h => ?_) (fun h => ?_)
              · skip
                refine ii_sipush dX12_debt_75 ks1092 ?_
                refine ii_bipush dX12_debt_78 kb7 ?_
                refine ii_aload_n 0 dX12_debt_80 rfl ?_
                refine ii_get (C := RX12) (T := TX12) (N := 25) (ci := 12) izX12 0 rfl rfl 0 (by decide) kX12_7 rfl dX12_debt_81 ?_
                refine ii_iconst dX12_debt_84 kc2 ?_
                refine ii_iald h 1 0 rfl rfl dX12_debt_85 (fun t_7 h => ?_)
                refine ii_imul dX12_debt_86 ?_
                refine ii_iadd dX12_debt_87 ?_
                refine ii_topI h (fun x_8 h => ?_)
                refine ii_istore (lv' := [(6, .int x_8), (0, .ref a_this), (1, .int p0), (2, .int p1), (3, .int p2), (4, .int p3), (5, .int p4)]) dX12_debt_88 (by decide) rfl ?_
                refine ii_aload_n 1 dX12_debt_90 rfl ?_
                refine ii_get (C := RX12) (T := TX12) (N := 25) (ci := 12) izX12 0 rfl rfl 0 (by decide) kX12_7 rfl dX12_debt_91 ?_
                refine ii_iload 0 dX12_debt_94 rfl ?_
                refine ii_iload_n 2 dX12_debt_96 rfl ?_
                refine ii_iast (fun g_9 => [(a_this, .inr (12, [.ref a_this_st, .ref a_this_images, .ref a_this_isKept, .long v_this_above, .long v_this_below, .int v_this_steps, .ref a_this_step, .ref a_this_with, .int v_this_waiting, .ref a_this_waits, .ref a_this_value, .ref a_this_given, .ref a_this_net, .ref a_this_together, .ref a_this_most, .ref a_this_owes, .ref a_this_can, .ref a_this_row, .ref a_this_before, .ref a_this_to, .ref a_this_on, .ref a_this_load, .ref a_this_lead, .ref a_this_bestLead, .ref a_this_silver])), (a_this_st, .inl (cI, 1951, .inl g_9))]) h 1 0 rfl rfl dX12_debt_97 (fun _ => rfl) (fun g_9 h => ?_)
                refine ii_aload_n 1 dX12_debt_98 rfl ?_
                refine ii_get (C := RX12) (T := TX12) (N := 25) (ci := 12) izX12 0 rfl rfl 0 (by decide) kX12_7 rfl dX12_debt_99 ?_
                refine ii_iload 0 dX12_debt_102 rfl ?_
                refine ii_iconst dX12_debt_104 kc1 ?_
                refine ii_iadd dX12_debt_105 ?_
                refine ii_iload_n 3 dX12_debt_106 rfl ?_
                refine ii_iast (fun g_10 => [(a_this, .inr (12, [.ref a_this_st, .ref a_this_images, .ref a_this_isKept, .long v_this_above, .long v_this_below, .int v_this_steps, .ref a_this_step, .ref a_this_with, .int v_this_waiting, .ref a_this_waits, .ref a_this_value, .ref a_this_given, .ref a_this_net, .ref a_this_together, .ref a_this_most, .ref a_this_owes, .ref a_this_can, .ref a_this_row, .ref a_this_before, .ref a_this_to, .ref a_this_on, .ref a_this_load, .ref a_this_lead, .ref a_this_bestLead, .ref a_this_silver])), (a_this_st, .inl (cI, 1951, .inl g_10))]) h 1 0 rfl rfl dX12_debt_107 (fun _ => rfl) (fun g_10 h => ?_)
                refine ii_aload_n 1 dX12_debt_108 rfl ?_
                refine ii_get (C := RX12) (T := TX12) (N := 25) (ci := 12) izX12 0 rfl rfl 0 (by decide) kX12_7 rfl dX12_debt_109 ?_
                refine ii_iload 0 dX12_debt_112 rfl ?_
                refine ii_iconst dX12_debt_114 kc2 ?_
                refine ii_iadd dX12_debt_115 ?_
                refine ii_iload_n 4 dX12_debt_116 rfl ?_
                refine ii_iast (fun g_11 => [(a_this, .inr (12, [.ref a_this_st, .ref a_this_images, .ref a_this_isKept, .long v_this_above, .long v_this_below, .int v_this_steps, .ref a_this_step, .ref a_this_with, .int v_this_waiting, .ref a_this_waits, .ref a_this_value, .ref a_this_given, .ref a_this_net, .ref a_this_together, .ref a_this_most, .ref a_this_owes, .ref a_this_can, .ref a_this_row, .ref a_this_before, .ref a_this_to, .ref a_this_on, .ref a_this_load, .ref a_this_lead, .ref a_this_bestLead, .ref a_this_silver])), (a_this_st, .inl (cI, 1951, .inl g_11))]) h 1 0 rfl rfl dX12_debt_117 (fun _ => rfl) (fun g_11 h => ?_)
                refine ii_aload_n 1 dX12_debt_118 rfl ?_
                refine ii_get (C := RX12) (T := TX12) (N := 25) (ci := 12) izX12 0 rfl rfl 0 (by decide) kX12_7 rfl dX12_debt_119 ?_
                refine ii_iload 0 dX12_debt_122 rfl ?_
                refine ii_iconst dX12_debt_124 kc3 ?_
                refine ii_iadd dX12_debt_125 ?_
                refine ii_iload 5 dX12_debt_126 rfl ?_
                refine ii_iast (fun g_12 => [(a_this, .inr (12, [.ref a_this_st, .ref a_this_images, .ref a_this_isKept, .long v_this_above, .long v_this_below, .int v_this_steps, .ref a_this_step, .ref a_this_with, .int v_this_waiting, .ref a_this_waits, .ref a_this_value, .ref a_this_given, .ref a_this_net, .ref a_this_together, .ref a_this_most, .ref a_this_owes, .ref a_this_can, .ref a_this_row, .ref a_this_before, .ref a_this_to, .ref a_this_on, .ref a_this_load, .ref a_this_lead, .ref a_this_bestLead, .ref a_this_silver])), (a_this_st, .inl (cI, 1951, .inl g_12))]) h 1 0 rfl rfl dX12_debt_128 (fun _ => rfl) (fun g_12 h => ?_)
                refine ii_aload_n 1 dX12_debt_129 rfl ?_
                refine ii_get (C := RX12) (T := TX12) (N := 25) (ci := 12) izX12 0 rfl rfl 0 (by decide) kX12_7 rfl dX12_debt_130 ?_
                refine ii_iload 0 dX12_debt_133 rfl ?_
                refine ii_iconst dX12_debt_135 kc4 ?_
                refine ii_iadd dX12_debt_136 ?_
                refine ii_iload 6 dX12_debt_137 rfl ?_
                refine ii_iast (fun g_13 => [(a_this, .inr (12, [.ref a_this_st, .ref a_this_images, .ref a_this_isKept, .long v_this_above, .long v_this_below, .int v_this_steps, .ref a_this_step, .ref a_this_with, .int v_this_waiting, .ref a_this_waits, .ref a_this_value, .ref a_this_given, .ref a_this_net, .ref a_this_together, .ref a_this_most, .ref a_this_owes, .ref a_this_can, .ref a_this_row, .ref a_this_before, .ref a_this_to, .ref a_this_on, .ref a_this_load, .ref a_this_lead, .ref a_this_bestLead, .ref a_this_silver])), (a_this_st, .inl (cI, 1951, .inl g_13))]) h 1 0 rfl rfl dX12_debt_139 (fun _ => rfl) (fun g_13 h => ?_)
                refine ii_aload_n 1 dX12_debt_140 rfl ?_
                refine ii_get (C := RX12) (T := TX12) (N := 25) (ci := 12) izX12 0 rfl rfl 0 (by decide) kX12_7 rfl dX12_debt_141 ?_
                refine ii_iload 0 dX12_debt_144 rfl ?_
                refine ii_iconst dX12_debt_146 kc5 ?_
                refine ii_iadd dX12_debt_147 ?_
                refine ii_iconst dX12_debt_148 kcm1 ?_
                refine ii_iast (fun g_14 => [(a_this, .inr (12, [.ref a_this_st, .ref a_this_images, .ref a_this_isKept, .long v_this_above, .long v_this_below, .int v_this_steps, .ref a_this_step, .ref a_this_with, .int v_this_waiting, .ref a_this_waits, .ref a_this_value, .ref a_this_given, .ref a_this_net, .ref a_this_together, .ref a_this_most, .ref a_this_owes, .ref a_this_can, .ref a_this_row, .ref a_this_before, .ref a_this_to, .ref a_this_on, .ref a_this_load, .ref a_this_lead, .ref a_this_bestLead, .ref a_this_silver])), (a_this_st, .inl (cI, 1951, .inl g_14))]) h 1 0 rfl rfl dX12_debt_149 (fun _ => rfl) (fun g_14 h => ?_)
                refine ii_aload_n 1 dX12_debt_150 rfl ?_
                refine ii_get (C := RX12) (T := TX12) (N := 25) (ci := 12) izX12 0 rfl rfl 0 (by decide) kX12_7 rfl dX12_debt_151 ?_
                refine ii_iload 0 dX12_debt_154 rfl ?_
                refine ii_bipush dX12_debt_156 kb6 ?_
                refine ii_iadd dX12_debt_158 ?_
                refine ii_iconst dX12_debt_159 kcm1 ?_
                refine ii_iast (fun g_15 => [(a_this, .inr (12, [.ref a_this_st, .ref a_this_images, .ref a_this_isKept, .long v_this_above, .long v_this_below, .int v_this_steps, .ref a_this_step, .ref a_this_with, .int v_this_waiting, .ref a_this_waits, .ref a_this_value, .ref a_this_given, .ref a_this_net, .ref a_this_together, .ref a_this_most, .ref a_this_owes, .ref a_this_can, .ref a_this_row, .ref a_this_before, .ref a_this_to, .ref a_this_on, .ref a_this_load, .ref a_this_lead, .ref a_this_bestLead, .ref a_this_silver])), (a_this_st, .inl (cI, 1951, .inl g_15))]) h 1 0 rfl rfl dX12_debt_160 (fun _ => rfl) (fun g_15 h => ?_)
                refine ii_aload_n 1 dX12_debt_161 rfl ?_
                refine ii_iconst dX12_debt_162 kc2 ?_
                obtain ⟨c_16, hc_16, h⟩ := bnd h
                refine ii_callVi (As := [.int (2 : Int32)]) (ws' := [(a_this, .inr (12, [.ref a_this_st, .ref a_this_images, .ref a_this_isKept, .long v_this_above, .long v_this_below, .int v_this_steps, .ref a_this_step, .ref a_this_with, .int v_this_waiting, .ref a_this_waits, .ref a_this_value, .ref a_this_given, .ref a_this_net, .ref a_this_together, .ref a_this_most, .ref a_this_owes, .ref a_this_can, .ref a_this_row, .ref a_this_before, .ref a_this_to, .ref a_this_on, .ref a_this_load, .ref a_this_lead, .ref a_this_bestLead, .ref a_this_silver])), (a_this_st, .inl (cI, 1951, .inl c_16.2))]) (st := []) (c_X12_one l D cI cJ cZ cH a_this a_this_before a_this_bestLead a_this_can a_this_given a_this_images a_this_isKept a_this_lead a_this_load a_this_most a_this_net a_this_on a_this_owes a_this_row a_this_silver a_this_st a_this_step a_this_to a_this_together a_this_value a_this_waits a_this_with v_this_above v_this_below g_15 v_this_steps v_this_waiting (2 : Int32) hc_16) gzX12_91 rfl rfl rfl eV_X12_one ⟨Nat.le_of_ble_eq_true rfl, Nat.le_of_ble_eq_true rfl⟩ rfl 0 rfl rfl [0, 1] rfl rfl rfl rfl rfl (Nat.le_of_ble_eq_true rfl) (Nat.le_refl _) (Nat.le_refl _) rfl dX12_debt_163 ?_
                cases h
                exact hQ _ _ dX12_debt_166
              · skip
                refine ii_bipush dX12_debt_72 kbm4 ?_
                cases h
                exact hQ _ _ dX12_debt_74
            · skip
              refine ii_bipush dX12_debt_58 kbm2 ?_
              cases h
              exact hQ _ _ dX12_debt_60
set_option maxHeartbeats 4000000 in
set_option maxRecDepth 100000 in
theorem c_X12_pay (l : Launch) (D : va_G) (cI cJ cZ cH : ClassId) (a_this a_this_before a_this_bestLead a_this_can a_this_given a_this_images a_this_isKept a_this_lead a_this_load a_this_most a_this_net a_this_on a_this_owes a_this_row a_this_silver a_this_st a_this_step a_this_to a_this_together a_this_value a_this_waits a_this_with : Nat) (v_this_above : Int64) (v_this_below : Int64) (v_this_st : Nat → Int32) (v_this_steps : Int32) (v_this_waiting : Int32) (p0 : Int32) (p1 : Int32) (p2 : Int32) {res : Int32 × (Nat → Int32)} (h : F_X12_pay v_this_st p0 p1 p2 = some res) : CTi l yX12_pay wzX12_pay { frames := 2, cells := 0, slots := 0, locals := 47 } D [(cI, .int), (cJ, .long), (cZ, .boolean), (cH, .object "TinHouse$House")] [.ref a_this, .int p0, .int p1, .int p2] [(a_this, .inr (12, [.ref a_this_st, .ref a_this_images, .ref a_this_isKept, .long v_this_above, .long v_this_below, .int v_this_steps, .ref a_this_step, .ref a_this_with, .int v_this_waiting, .ref a_this_waits, .ref a_this_value, .ref a_this_given, .ref a_this_net, .ref a_this_together, .ref a_this_most, .ref a_this_owes, .ref a_this_can, .ref a_this_row, .ref a_this_before, .ref a_this_to, .ref a_this_on, .ref a_this_load, .ref a_this_lead, .ref a_this_bestLead, .ref a_this_silver])), (a_this_st, .inl (cI, 1951, .inl v_this_st))] res.1 [(a_this, .inr (12, [.ref a_this_st, .ref a_this_images, .ref a_this_isKept, .long v_this_above, .long v_this_below, .int v_this_steps, .ref a_this_step, .ref a_this_with, .int v_this_waiting, .ref a_this_waits, .ref a_this_value, .ref a_this_given, .ref a_this_net, .ref a_this_together, .ref a_this_most, .ref a_this_owes, .ref a_this_can, .ref a_this_row, .ref a_this_before, .ref a_this_to, .ref a_this_on, .ref a_this_load, .ref a_this_lead, .ref a_this_bestLead, .ref a_this_silver])), (a_this_st, .inl (cI, 1951, .inl res.2))] := by
  unfold F_X12_pay at h
  refine ii_metI (own := RX12) (lv0 := [(0, .ref a_this), (1, .int p0), (2, .int p1), (3, .int p2)]) (by decide) rfl rfl rfl (Nat.le_of_ble_eq_true rfl) (fun {p e s m args below meth c A Q} hQ => ?_)
  refine ii_aload_n 0 dX12_pay_0 rfl ?_
  refine ii_iconst dX12_pay_1 kc2 ?_
  refine ii_iload_n 1 dX12_pay_2 rfl ?_
  obtain ⟨c_1, hc_1, h⟩ := bnd h
  refine ii_callVi (As := [.int (2 : Int32), .int p0]) (ws' := [(a_this, .inr (12, [.ref a_this_st, .ref a_this_images, .ref a_this_isKept, .long v_this_above, .long v_this_below, .int v_this_steps, .ref a_this_step, .ref a_this_with, .int v_this_waiting, .ref a_this_waits, .ref a_this_value, .ref a_this_given, .ref a_this_net, .ref a_this_together, .ref a_this_most, .ref a_this_owes, .ref a_this_can, .ref a_this_row, .ref a_this_before, .ref a_this_to, .ref a_this_on, .ref a_this_load, .ref a_this_lead, .ref a_this_bestLead, .ref a_this_silver])), (a_this_st, .inl (cI, 1951, .inl v_this_st))]) (st := []) (c_X12_is l D cI cJ cZ cH a_this a_this_before a_this_bestLead a_this_can a_this_given a_this_images a_this_isKept a_this_lead a_this_load a_this_most a_this_net a_this_on a_this_owes a_this_row a_this_silver a_this_st a_this_step a_this_to a_this_together a_this_value a_this_waits a_this_with v_this_above v_this_below v_this_st v_this_steps v_this_waiting (2 : Int32) p0 hc_1) gzX12_173 rfl rfl rfl eV_X12_is ⟨Nat.le_of_ble_eq_true rfl, Nat.le_of_ble_eq_true rfl⟩ rfl 0 rfl rfl [0, 1] rfl rfl rfl rfl rfl (Nat.le_of_ble_eq_true rfl) (Nat.le_refl _) (Nat.le_refl _) rfl dX12_pay_3 ?_
  refine ii_if_eq (tgt := 39) h dX12_pay_6 (by decide) (fun h => ?_) (fun h => ?_)
  · skip
    refine ii_bipush dX12_pay_39 kbm2 ?_
    cases h
    exact hQ _ _ dX12_pay_41
  · skip
    refine ii_iload_n 2 dX12_pay_9 rfl ?_
    refine ii_i2l dX12_pay_10 ?_
    refine ii_aload_n 0 dX12_pay_11 rfl ?_
    refine ii_iload_n 1 dX12_pay_12 rfl ?_
    refine ii_iconst dX12_pay_13 kc3 ?_
    obtain ⟨c_2, hc_2, h⟩ := bnd h
    refine ii_callVi (As := [.int p0, .int (3 : Int32)]) (ws' := [(a_this, .inr (12, [.ref a_this_st, .ref a_this_images, .ref a_this_isKept, .long v_this_above, .long v_this_below, .int v_this_steps, .ref a_this_step, .ref a_this_with, .int v_this_waiting, .ref a_this_waits, .ref a_this_value, .ref a_this_given, .ref a_this_net, .ref a_this_together, .ref a_this_most, .ref a_this_owes, .ref a_this_can, .ref a_this_row, .ref a_this_before, .ref a_this_to, .ref a_this_on, .ref a_this_load, .ref a_this_lead, .ref a_this_bestLead, .ref a_this_silver])), (a_this_st, .inl (cI, 1951, .inl v_this_st))]) (st := [.long p1.toInt64]) (c_X12_debtOf l D cI cJ cZ cH a_this a_this_before a_this_bestLead a_this_can a_this_given a_this_images a_this_isKept a_this_lead a_this_load a_this_most a_this_net a_this_on a_this_owes a_this_row a_this_silver a_this_st a_this_step a_this_to a_this_together a_this_value a_this_waits a_this_with v_this_above v_this_below v_this_st v_this_steps v_this_waiting p0 (3 : Int32) hc_2) gzX12_179 rfl rfl rfl eV_X12_debtOf ⟨Nat.le_of_ble_eq_true rfl, Nat.le_of_ble_eq_true rfl⟩ rfl 0 rfl rfl [0, 1] rfl rfl rfl rfl rfl (Nat.le_of_ble_eq_true rfl) (Nat.le_refl _) (Nat.le_refl _) rfl dX12_pay_14 ?_
    refine ii_i2l dX12_pay_17 ?_
    refine ii_ldc2 (v := 99) dX12_pay_18 kX12_83 ?_
    obtain ⟨c_3, hc_3, h⟩ := bnd h
    refine ii_callSi (As := [.long p1.toInt64, .long c_2.toInt64, .long (99 : Int64)]) (ws' := [(a_this, .inr (12, [.ref a_this_st, .ref a_this_images, .ref a_this_isKept, .long v_this_above, .long v_this_below, .int v_this_steps, .ref a_this_step, .ref a_this_with, .int v_this_waiting, .ref a_this_waits, .ref a_this_value, .ref a_this_given, .ref a_this_net, .ref a_this_together, .ref a_this_most, .ref a_this_owes, .ref a_this_can, .ref a_this_row, .ref a_this_before, .ref a_this_to, .ref a_this_on, .ref a_this_load, .ref a_this_lead, .ref a_this_bestLead, .ref a_this_silver])), (a_this_st, .inl (cI, 1951, .inl v_this_st))]) (st := []) (c_X12_in l D cI cJ cZ cH p1.toInt64 c_2.toInt64 (99 : Int64) hc_3) gzX12_79 rfl rfl rfl eS_X12_in ⟨Nat.le_of_ble_eq_true rfl, Nat.le_of_ble_eq_true rfl⟩ rfl [] rfl rfl rfl rfl rfl (Nat.le_of_ble_eq_true rfl) (Nat.le_refl _) (Nat.le_refl _) rfl dX12_pay_21 ?_
    refine ii_if_eq (tgt := 39) h dX12_pay_24 (by decide) (fun h => ?_) (fun h => ?_)
    · skip
      refine ii_bipush dX12_pay_39 kbm2 ?_
      cases h
      exact hQ _ _ dX12_pay_41
    · skip
      refine ii_iload_n 3 dX12_pay_27 rfl ?_
      refine ii_i2l dX12_pay_28 ?_
      refine ii_lconst dX12_pay_29 kl1 ?_
      refine ii_ldc2 (v := 1000000) dX12_pay_30 kX12_177 ?_
      obtain ⟨c_4, hc_4, h⟩ := bnd h
      refine ii_callSi (As := [.long p2.toInt64, .long (1 : Int64), .long (1000000 : Int64)]) (ws' := [(a_this, .inr (12, [.ref a_this_st, .ref a_this_images, .ref a_this_isKept, .long v_this_above, .long v_this_below, .int v_this_steps, .ref a_this_step, .ref a_this_with, .int v_this_waiting, .ref a_this_waits, .ref a_this_value, .ref a_this_given, .ref a_this_net, .ref a_this_together, .ref a_this_most, .ref a_this_owes, .ref a_this_can, .ref a_this_row, .ref a_this_before, .ref a_this_to, .ref a_this_on, .ref a_this_load, .ref a_this_lead, .ref a_this_bestLead, .ref a_this_silver])), (a_this_st, .inl (cI, 1951, .inl v_this_st))]) (st := []) (c_X12_in l D cI cJ cZ cH p2.toInt64 (1 : Int64) (1000000 : Int64) hc_4) gzX12_79 rfl rfl rfl eS_X12_in ⟨Nat.le_of_ble_eq_true rfl, Nat.le_of_ble_eq_true rfl⟩ rfl [] rfl rfl rfl rfl rfl (Nat.le_of_ble_eq_true rfl) (Nat.le_refl _) (Nat.le_refl _) rfl dX12_pay_33 ?_
      refine ii_if_ne (tgt := 42) h dX12_pay_36 (by decide) (fun h => ?_) (fun h => ?_)
      · skip
        refine ii_aload_n 0 dX12_pay_42 rfl ?_
        refine ii_get (C := RX12) (T := TX12) (N := 25) (ci := 12) izX12 0 rfl rfl 0 (by decide) kX12_7 rfl dX12_pay_43 ?_
        refine ii_iconst dX12_pay_46 kc3 ?_
        refine ii_iald h 1 0 rfl rfl dX12_pay_47 (fun t_5 h => ?_)
        refine ii_bipush dX12_pay_48 kb60 ?_
        refine ii_icmp_ne (tgt := 56) h dX12_pay_50 (by decide) (fun h => ?_) (fun h => ?_)
        · skip
          refine ii_sipush dX12_pay_56 ks1372 ?_
          refine ii_iconst dX12_pay_59 kc3 ?_
          refine ii_aload_n 0 dX12_pay_60 rfl ?_
          refine ii_get (C := RX12) (T := TX12) (N := 25) (ci := 12) izX12 0 rfl rfl 0 (by decide) kX12_7 rfl dX12_pay_61 ?_
          refine ii_iconst dX12_pay_64 kc3 ?_
          refine ii_iald h 1 0 rfl rfl dX12_pay_65 (fun t_6 h => ?_)
          refine ii_imul dX12_pay_66 ?_
          refine ii_iadd dX12_pay_67 ?_
          refine ii_topI h (fun x_7 h => ?_)
          refine ii_istore (lv' := [(4, .int x_7), (0, .ref a_this), (1, .int p0), (2, .int p1), (3, .int p2)]) dX12_pay_68 (by decide) rfl ?_
          refine ii_aload_n 1 dX12_pay_70 rfl ?_
          refine ii_get (C := RX12) (T := TX12) (N := 25) (ci := 12) izX12 0 rfl rfl 0 (by decide) kX12_7 rfl dX12_pay_71 ?_
          refine ii_iload 0 dX12_pay_74 rfl ?_
          refine ii_iload_n 2 dX12_pay_76 rfl ?_
          refine ii_iast (fun g_8 => [(a_this, .inr (12, [.ref a_this_st, .ref a_this_images, .ref a_this_isKept, .long v_this_above, .long v_this_below, .int v_this_steps, .ref a_this_step, .ref a_this_with, .int v_this_waiting, .ref a_this_waits, .ref a_this_value, .ref a_this_given, .ref a_this_net, .ref a_this_together, .ref a_this_most, .ref a_this_owes, .ref a_this_can, .ref a_this_row, .ref a_this_before, .ref a_this_to, .ref a_this_on, .ref a_this_load, .ref a_this_lead, .ref a_this_bestLead, .ref a_this_silver])), (a_this_st, .inl (cI, 1951, .inl g_8))]) h 1 0 rfl rfl dX12_pay_77 (fun _ => rfl) (fun g_8 h => ?_)
          refine ii_aload_n 1 dX12_pay_78 rfl ?_
          refine ii_get (C := RX12) (T := TX12) (N := 25) (ci := 12) izX12 0 rfl rfl 0 (by decide) kX12_7 rfl dX12_pay_79 ?_
          refine ii_iload 0 dX12_pay_82 rfl ?_
          refine ii_iconst dX12_pay_84 kc1 ?_
          refine ii_iadd dX12_pay_85 ?_
          refine ii_iload_n 3 dX12_pay_86 rfl ?_
          refine ii_iast (fun g_9 => [(a_this, .inr (12, [.ref a_this_st, .ref a_this_images, .ref a_this_isKept, .long v_this_above, .long v_this_below, .int v_this_steps, .ref a_this_step, .ref a_this_with, .int v_this_waiting, .ref a_this_waits, .ref a_this_value, .ref a_this_given, .ref a_this_net, .ref a_this_together, .ref a_this_most, .ref a_this_owes, .ref a_this_can, .ref a_this_row, .ref a_this_before, .ref a_this_to, .ref a_this_on, .ref a_this_load, .ref a_this_lead, .ref a_this_bestLead, .ref a_this_silver])), (a_this_st, .inl (cI, 1951, .inl g_9))]) h 1 0 rfl rfl dX12_pay_87 (fun _ => rfl) (fun g_9 h => ?_)
          refine ii_aload_n 1 dX12_pay_88 rfl ?_
          refine ii_get (C := RX12) (T := TX12) (N := 25) (ci := 12) izX12 0 rfl rfl 0 (by decide) kX12_7 rfl dX12_pay_89 ?_
          refine ii_iload 0 dX12_pay_92 rfl ?_
          refine ii_iconst dX12_pay_94 kc2 ?_
          refine ii_iadd dX12_pay_95 ?_
          refine ii_iload_n 4 dX12_pay_96 rfl ?_
          refine ii_iast (fun g_10 => [(a_this, .inr (12, [.ref a_this_st, .ref a_this_images, .ref a_this_isKept, .long v_this_above, .long v_this_below, .int v_this_steps, .ref a_this_step, .ref a_this_with, .int v_this_waiting, .ref a_this_waits, .ref a_this_value, .ref a_this_given, .ref a_this_net, .ref a_this_together, .ref a_this_most, .ref a_this_owes, .ref a_this_can, .ref a_this_row, .ref a_this_before, .ref a_this_to, .ref a_this_on, .ref a_this_load, .ref a_this_lead, .ref a_this_bestLead, .ref a_this_silver])), (a_this_st, .inl (cI, 1951, .inl g_10))]) h 1 0 rfl rfl dX12_pay_97 (fun _ => rfl) (fun g_10 h => ?_)
          refine ii_aload_n 1 dX12_pay_98 rfl ?_
          refine ii_iconst dX12_pay_99 kc3 ?_
          obtain ⟨c_11, hc_11, h⟩ := bnd h
          refine ii_callVi (As := [.int (3 : Int32)]) (ws' := [(a_this, .inr (12, [.ref a_this_st, .ref a_this_images, .ref a_this_isKept, .long v_this_above, .long v_this_below, .int v_this_steps, .ref a_this_step, .ref a_this_with, .int v_this_waiting, .ref a_this_waits, .ref a_this_value, .ref a_this_given, .ref a_this_net, .ref a_this_together, .ref a_this_most, .ref a_this_owes, .ref a_this_can, .ref a_this_row, .ref a_this_before, .ref a_this_to, .ref a_this_on, .ref a_this_load, .ref a_this_lead, .ref a_this_bestLead, .ref a_this_silver])), (a_this_st, .inl (cI, 1951, .inl c_11.2))]) (st := []) (c_X12_one l D cI cJ cZ cH a_this a_this_before a_this_bestLead a_this_can a_this_given a_this_images a_this_isKept a_this_lead a_this_load a_this_most a_this_net a_this_on a_this_owes a_this_row a_this_silver a_this_st a_this_step a_this_to a_this_together a_this_value a_this_waits a_this_with v_this_above v_this_below g_10 v_this_steps v_this_waiting (3 : Int32) hc_11) gzX12_91 rfl rfl rfl eV_X12_one ⟨Nat.le_of_ble_eq_true rfl, Nat.le_of_ble_eq_true rfl⟩ rfl 0 rfl rfl [0, 1] rfl rfl rfl rfl rfl (Nat.le_of_ble_eq_true rfl) (Nat.le_refl _) (Nat.le_refl _) rfl dX12_pay_100 ?_
          refine ii_iconst dX12_pay_103 kc1 ?_
          refine ii_iadd dX12_pay_104 ?_
          cases h
          exact hQ _ _ dX12_pay_105
        · skip
          refine ii_bipush dX12_pay_53 kbm4 ?_
          cases h
          exact hQ _ _ dX12_pay_55
      · skip
        refine ii_bipush dX12_pay_39 kbm2 ?_
        cases h
        exact hQ _ _ dX12_pay_41
set_option maxHeartbeats 4000000 in
set_option maxRecDepth 100000 in
theorem c_X12_seal (l : Launch) (D : va_G) (cI cJ cZ cH : ClassId) (a_this a_this_before a_this_bestLead a_this_can a_this_given a_this_images a_this_isKept a_this_lead a_this_load a_this_most a_this_net a_this_on a_this_owes a_this_row a_this_silver a_this_st a_this_step a_this_to a_this_together a_this_value a_this_waits a_this_with : Nat) (v_this_above : Int64) (v_this_below : Int64) (v_this_st : Nat → Int32) (v_this_steps : Int32) (v_this_waiting : Int32) (p0 : Int32) (p1 : Int32) {res : Int32 × (Nat → Int32)} (h : F_X12_seal v_this_st p0 p1 = some res) : CTi l yX12_seal wzX12_seal { frames := 2, cells := 0, slots := 0, locals := 47 } D [(cI, .int), (cJ, .long), (cZ, .boolean), (cH, .object "TinHouse$House")] [.ref a_this, .int p0, .int p1] [(a_this, .inr (12, [.ref a_this_st, .ref a_this_images, .ref a_this_isKept, .long v_this_above, .long v_this_below, .int v_this_steps, .ref a_this_step, .ref a_this_with, .int v_this_waiting, .ref a_this_waits, .ref a_this_value, .ref a_this_given, .ref a_this_net, .ref a_this_together, .ref a_this_most, .ref a_this_owes, .ref a_this_can, .ref a_this_row, .ref a_this_before, .ref a_this_to, .ref a_this_on, .ref a_this_load, .ref a_this_lead, .ref a_this_bestLead, .ref a_this_silver])), (a_this_st, .inl (cI, 1951, .inl v_this_st))] res.1 [(a_this, .inr (12, [.ref a_this_st, .ref a_this_images, .ref a_this_isKept, .long v_this_above, .long v_this_below, .int v_this_steps, .ref a_this_step, .ref a_this_with, .int v_this_waiting, .ref a_this_waits, .ref a_this_value, .ref a_this_given, .ref a_this_net, .ref a_this_together, .ref a_this_most, .ref a_this_owes, .ref a_this_can, .ref a_this_row, .ref a_this_before, .ref a_this_to, .ref a_this_on, .ref a_this_load, .ref a_this_lead, .ref a_this_bestLead, .ref a_this_silver])), (a_this_st, .inl (cI, 1951, .inl res.2))] := by
  unfold F_X12_seal at h
  refine ii_metI (own := RX12) (lv0 := [(0, .ref a_this), (1, .int p0), (2, .int p1)]) (by decide) rfl rfl rfl (Nat.le_of_ble_eq_true rfl) (fun {p e s m args below meth c A Q} hQ => ?_)
  refine ii_aload_n 0 dX12_seal_0 rfl ?_
  refine ii_iconst dX12_seal_1 kc2 ?_
  refine ii_iload_n 1 dX12_seal_2 rfl ?_
  obtain ⟨c_1, hc_1, h⟩ := bnd h
  refine ii_callVi (As := [.int (2 : Int32), .int p0]) (ws' := [(a_this, .inr (12, [.ref a_this_st, .ref a_this_images, .ref a_this_isKept, .long v_this_above, .long v_this_below, .int v_this_steps, .ref a_this_step, .ref a_this_with, .int v_this_waiting, .ref a_this_waits, .ref a_this_value, .ref a_this_given, .ref a_this_net, .ref a_this_together, .ref a_this_most, .ref a_this_owes, .ref a_this_can, .ref a_this_row, .ref a_this_before, .ref a_this_to, .ref a_this_on, .ref a_this_load, .ref a_this_lead, .ref a_this_bestLead, .ref a_this_silver])), (a_this_st, .inl (cI, 1951, .inl v_this_st))]) (st := []) (c_X12_is l D cI cJ cZ cH a_this a_this_before a_this_bestLead a_this_can a_this_given a_this_images a_this_isKept a_this_lead a_this_load a_this_most a_this_net a_this_on a_this_owes a_this_row a_this_silver a_this_st a_this_step a_this_to a_this_together a_this_value a_this_waits a_this_with v_this_above v_this_below v_this_st v_this_steps v_this_waiting (2 : Int32) p0 hc_1) gzX12_173 rfl rfl rfl eV_X12_is ⟨Nat.le_of_ble_eq_true rfl, Nat.le_of_ble_eq_true rfl⟩ rfl 0 rfl rfl [0, 1] rfl rfl rfl rfl rfl (Nat.le_of_ble_eq_true rfl) (Nat.le_refl _) (Nat.le_refl _) rfl dX12_seal_3 ?_
  refine ii_if_eq (tgt := 21) h dX12_seal_6 (by decide) (fun h => ?_) (fun h => ?_)
  · skip
    refine ii_bipush dX12_seal_21 kbm2 ?_
    cases h
    exact hQ _ _ dX12_seal_23
  · skip
    refine ii_iload_n 2 dX12_seal_9 rfl ?_
    refine ii_i2l dX12_seal_10 ?_
    refine ii_lconst dX12_seal_11 kl1 ?_
    refine ii_ldc2 (v := 1000000) dX12_seal_12 kX12_177 ?_
    obtain ⟨c_2, hc_2, h⟩ := bnd h
    refine ii_callSi (As := [.long p1.toInt64, .long (1 : Int64), .long (1000000 : Int64)]) (ws' := [(a_this, .inr (12, [.ref a_this_st, .ref a_this_images, .ref a_this_isKept, .long v_this_above, .long v_this_below, .int v_this_steps, .ref a_this_step, .ref a_this_with, .int v_this_waiting, .ref a_this_waits, .ref a_this_value, .ref a_this_given, .ref a_this_net, .ref a_this_together, .ref a_this_most, .ref a_this_owes, .ref a_this_can, .ref a_this_row, .ref a_this_before, .ref a_this_to, .ref a_this_on, .ref a_this_load, .ref a_this_lead, .ref a_this_bestLead, .ref a_this_silver])), (a_this_st, .inl (cI, 1951, .inl v_this_st))]) (st := []) (c_X12_in l D cI cJ cZ cH p1.toInt64 (1 : Int64) (1000000 : Int64) hc_2) gzX12_79 rfl rfl rfl eS_X12_in ⟨Nat.le_of_ble_eq_true rfl, Nat.le_of_ble_eq_true rfl⟩ rfl [] rfl rfl rfl rfl rfl (Nat.le_of_ble_eq_true rfl) (Nat.le_refl _) (Nat.le_refl _) rfl dX12_seal_15 ?_
    refine ii_if_ne (tgt := 24) h dX12_seal_18 (by decide) (fun h => ?_) (fun h => ?_)
    · skip
      refine ii_aload_n 0 dX12_seal_24 rfl ?_
      refine ii_iload_n 1 dX12_seal_25 rfl ?_
      refine ii_iconst dX12_seal_26 kc5 ?_
      obtain ⟨c_3, hc_3, h⟩ := bnd h
      refine ii_callVi (As := [.int p0, .int (5 : Int32)]) (ws' := [(a_this, .inr (12, [.ref a_this_st, .ref a_this_images, .ref a_this_isKept, .long v_this_above, .long v_this_below, .int v_this_steps, .ref a_this_step, .ref a_this_with, .int v_this_waiting, .ref a_this_waits, .ref a_this_value, .ref a_this_given, .ref a_this_net, .ref a_this_together, .ref a_this_most, .ref a_this_owes, .ref a_this_can, .ref a_this_row, .ref a_this_before, .ref a_this_to, .ref a_this_on, .ref a_this_load, .ref a_this_lead, .ref a_this_bestLead, .ref a_this_silver])), (a_this_st, .inl (cI, 1951, .inl v_this_st))]) (st := []) (c_X12_debtOf l D cI cJ cZ cH a_this a_this_before a_this_bestLead a_this_can a_this_given a_this_images a_this_isKept a_this_lead a_this_load a_this_most a_this_net a_this_on a_this_owes a_this_row a_this_silver a_this_st a_this_step a_this_to a_this_together a_this_value a_this_waits a_this_with v_this_above v_this_below v_this_st v_this_steps v_this_waiting p0 (5 : Int32) hc_3) gzX12_179 rfl rfl rfl eV_X12_debtOf ⟨Nat.le_of_ble_eq_true rfl, Nat.le_of_ble_eq_true rfl⟩ rfl 0 rfl rfl [0, 1] rfl rfl rfl rfl rfl (Nat.le_of_ble_eq_true rfl) (Nat.le_refl _) (Nat.le_refl _) rfl dX12_seal_27 ?_
      refine ii_iconst dX12_seal_30 kcm1 ?_
      refine ii_icmp_eq (tgt := 37) h dX12_seal_31 (by decide) (fun h => ?_) (fun h => ?_)
      · skip
        refine ii_aload_n 0 dX12_seal_37 rfl ?_
        refine ii_get (C := RX12) (T := TX12) (N := 25) (ci := 12) izX12 0 rfl rfl 0 (by decide) kX12_7 rfl dX12_seal_38 ?_
        refine ii_sipush dX12_seal_41 ks1092 ?_
        refine ii_bipush dX12_seal_44 kb7 ?_
        refine ii_iload_n 1 dX12_seal_46 rfl ?_
        refine ii_imul dX12_seal_47 ?_
        refine ii_iadd dX12_seal_48 ?_
        refine ii_iconst dX12_seal_49 kc5 ?_
        refine ii_iadd dX12_seal_50 ?_
        refine ii_iload_n 2 dX12_seal_51 rfl ?_
        refine ii_iast (fun g_4 => [(a_this, .inr (12, [.ref a_this_st, .ref a_this_images, .ref a_this_isKept, .long v_this_above, .long v_this_below, .int v_this_steps, .ref a_this_step, .ref a_this_with, .int v_this_waiting, .ref a_this_waits, .ref a_this_value, .ref a_this_given, .ref a_this_net, .ref a_this_together, .ref a_this_most, .ref a_this_owes, .ref a_this_can, .ref a_this_row, .ref a_this_before, .ref a_this_to, .ref a_this_on, .ref a_this_load, .ref a_this_lead, .ref a_this_bestLead, .ref a_this_silver])), (a_this_st, .inl (cI, 1951, .inl g_4))]) h 1 0 rfl rfl dX12_seal_52 (fun _ => rfl) (fun g_4 h => ?_)
        refine ii_iconst dX12_seal_53 kc1 ?_
        cases h
        exact hQ _ _ dX12_seal_54
      · skip
        refine ii_bipush dX12_seal_34 kbm3 ?_
        cases h
        exact hQ _ _ dX12_seal_36
    · skip
      refine ii_bipush dX12_seal_21 kbm2 ?_
      cases h
      exact hQ _ _ dX12_seal_23
set_option maxHeartbeats 4000000 in
set_option maxRecDepth 100000 in
theorem c_X12_breaks (l : Launch) (D : va_G) (cI cJ cZ cH : ClassId) (a_this a_this_before a_this_bestLead a_this_can a_this_given a_this_images a_this_isKept a_this_lead a_this_load a_this_most a_this_net a_this_on a_this_owes a_this_row a_this_silver a_this_st a_this_step a_this_to a_this_together a_this_value a_this_waits a_this_with : Nat) (v_this_above : Int64) (v_this_below : Int64) (v_this_st : Nat → Int32) (v_this_steps : Int32) (v_this_waiting : Int32) (p0 : Int32) (p1 : Int32) {res : Int32 × (Nat → Int32)} (h : F_X12_breaks v_this_st p0 p1 = some res) : CTi l yX12_breaks wzX12_breaks { frames := 2, cells := 0, slots := 0, locals := 47 } D [(cI, .int), (cJ, .long), (cZ, .boolean), (cH, .object "TinHouse$House")] [.ref a_this, .int p0, .int p1] [(a_this, .inr (12, [.ref a_this_st, .ref a_this_images, .ref a_this_isKept, .long v_this_above, .long v_this_below, .int v_this_steps, .ref a_this_step, .ref a_this_with, .int v_this_waiting, .ref a_this_waits, .ref a_this_value, .ref a_this_given, .ref a_this_net, .ref a_this_together, .ref a_this_most, .ref a_this_owes, .ref a_this_can, .ref a_this_row, .ref a_this_before, .ref a_this_to, .ref a_this_on, .ref a_this_load, .ref a_this_lead, .ref a_this_bestLead, .ref a_this_silver])), (a_this_st, .inl (cI, 1951, .inl v_this_st))] res.1 [(a_this, .inr (12, [.ref a_this_st, .ref a_this_images, .ref a_this_isKept, .long v_this_above, .long v_this_below, .int v_this_steps, .ref a_this_step, .ref a_this_with, .int v_this_waiting, .ref a_this_waits, .ref a_this_value, .ref a_this_given, .ref a_this_net, .ref a_this_together, .ref a_this_most, .ref a_this_owes, .ref a_this_can, .ref a_this_row, .ref a_this_before, .ref a_this_to, .ref a_this_on, .ref a_this_load, .ref a_this_lead, .ref a_this_bestLead, .ref a_this_silver])), (a_this_st, .inl (cI, 1951, .inl res.2))] := by
  unfold F_X12_breaks at h
  refine ii_metI (own := RX12) (lv0 := [(0, .ref a_this), (1, .int p0), (2, .int p1)]) (by decide) rfl rfl rfl (Nat.le_of_ble_eq_true rfl) (fun {p e s m args below meth c A Q} hQ => ?_)
  refine ii_aload_n 0 dX12_breaks_0 rfl ?_
  refine ii_iconst dX12_breaks_1 kc2 ?_
  refine ii_iload_n 1 dX12_breaks_2 rfl ?_
  obtain ⟨c_1, hc_1, h⟩ := bnd h
  refine ii_callVi (As := [.int (2 : Int32), .int p0]) (ws' := [(a_this, .inr (12, [.ref a_this_st, .ref a_this_images, .ref a_this_isKept, .long v_this_above, .long v_this_below, .int v_this_steps, .ref a_this_step, .ref a_this_with, .int v_this_waiting, .ref a_this_waits, .ref a_this_value, .ref a_this_given, .ref a_this_net, .ref a_this_together, .ref a_this_most, .ref a_this_owes, .ref a_this_can, .ref a_this_row, .ref a_this_before, .ref a_this_to, .ref a_this_on, .ref a_this_load, .ref a_this_lead, .ref a_this_bestLead, .ref a_this_silver])), (a_this_st, .inl (cI, 1951, .inl v_this_st))]) (st := []) (c_X12_is l D cI cJ cZ cH a_this a_this_before a_this_bestLead a_this_can a_this_given a_this_images a_this_isKept a_this_lead a_this_load a_this_most a_this_net a_this_on a_this_owes a_this_row a_this_silver a_this_st a_this_step a_this_to a_this_together a_this_value a_this_waits a_this_with v_this_above v_this_below v_this_st v_this_steps v_this_waiting (2 : Int32) p0 hc_1) gzX12_173 rfl rfl rfl eV_X12_is ⟨Nat.le_of_ble_eq_true rfl, Nat.le_of_ble_eq_true rfl⟩ rfl 0 rfl rfl [0, 1] rfl rfl rfl rfl rfl (Nat.le_of_ble_eq_true rfl) (Nat.le_refl _) (Nat.le_refl _) rfl dX12_breaks_3 ?_
  refine ii_if_eq (tgt := 16) h dX12_breaks_6 (by decide) (fun h => ?_) (fun h => ?_)
  · skip
    refine ii_bipush dX12_breaks_16 kbm2 ?_
    cases h
    exact hQ _ _ dX12_breaks_18
  · skip
    refine ii_iload_n 2 dX12_breaks_9 rfl ?_
    obtain ⟨c_2, hc_2, h⟩ := bnd h
    refine ii_callSi (As := [.int p1]) (ws' := [(a_this, .inr (12, [.ref a_this_st, .ref a_this_images, .ref a_this_isKept, .long v_this_above, .long v_this_below, .int v_this_steps, .ref a_this_step, .ref a_this_with, .int v_this_waiting, .ref a_this_waits, .ref a_this_value, .ref a_this_given, .ref a_this_net, .ref a_this_together, .ref a_this_most, .ref a_this_owes, .ref a_this_can, .ref a_this_row, .ref a_this_before, .ref a_this_to, .ref a_this_on, .ref a_this_load, .ref a_this_lead, .ref a_this_bestLead, .ref a_this_silver])), (a_this_st, .inl (cI, 1951, .inl v_this_st))]) (st := []) (c_X12_isSeason l D cI cJ cZ cH p1 hc_2) gzX12_153 rfl rfl rfl eS_X12_isSeason ⟨Nat.le_of_ble_eq_true rfl, Nat.le_of_ble_eq_true rfl⟩ rfl [] rfl rfl rfl rfl rfl (Nat.le_of_ble_eq_true rfl) (Nat.le_refl _) (Nat.le_refl _) rfl dX12_breaks_10 ?_
    refine ii_if_ne (tgt := 19) h dX12_breaks_13 (by decide) (fun h => ?_) (fun h => ?_)
    · skip
      refine ii_aload_n 0 dX12_breaks_19 rfl ?_
      refine ii_iload_n 1 dX12_breaks_20 rfl ?_
      refine ii_iconst dX12_breaks_21 kc5 ?_
      obtain ⟨c_3, hc_3, h⟩ := bnd h
      refine ii_callVi (As := [.int p0, .int (5 : Int32)]) (ws' := [(a_this, .inr (12, [.ref a_this_st, .ref a_this_images, .ref a_this_isKept, .long v_this_above, .long v_this_below, .int v_this_steps, .ref a_this_step, .ref a_this_with, .int v_this_waiting, .ref a_this_waits, .ref a_this_value, .ref a_this_given, .ref a_this_net, .ref a_this_together, .ref a_this_most, .ref a_this_owes, .ref a_this_can, .ref a_this_row, .ref a_this_before, .ref a_this_to, .ref a_this_on, .ref a_this_load, .ref a_this_lead, .ref a_this_bestLead, .ref a_this_silver])), (a_this_st, .inl (cI, 1951, .inl v_this_st))]) (st := []) (c_X12_debtOf l D cI cJ cZ cH a_this a_this_before a_this_bestLead a_this_can a_this_given a_this_images a_this_isKept a_this_lead a_this_load a_this_most a_this_net a_this_on a_this_owes a_this_row a_this_silver a_this_st a_this_step a_this_to a_this_together a_this_value a_this_waits a_this_with v_this_above v_this_below v_this_st v_this_steps v_this_waiting p0 (5 : Int32) hc_3) gzX12_179 rfl rfl rfl eV_X12_debtOf ⟨Nat.le_of_ble_eq_true rfl, Nat.le_of_ble_eq_true rfl⟩ rfl 0 rfl rfl [0, 1] rfl rfl rfl rfl rfl (Nat.le_of_ble_eq_true rfl) (Nat.le_refl _) (Nat.le_refl _) rfl dX12_breaks_22 ?_
      refine ii_iconst dX12_breaks_25 kcm1 ?_
      refine ii_icmp_eq (tgt := 40) h dX12_breaks_26 (by decide) (fun h => ?_) (fun h => ?_)
      · skip
        refine ii_bipush dX12_breaks_40 kbm3 ?_
        cases h
        exact hQ _ _ dX12_breaks_42
      · skip
        refine ii_aload_n 0 dX12_breaks_29 rfl ?_
        refine ii_iload_n 1 dX12_breaks_30 rfl ?_
        refine ii_bipush dX12_breaks_31 kb6 ?_
        obtain ⟨c_4, hc_4, h⟩ := bnd h
        refine ii_callVi (As := [.int p0, .int (6 : Int32)]) (ws' := [(a_this, .inr (12, [.ref a_this_st, .ref a_this_images, .ref a_this_isKept, .long v_this_above, .long v_this_below, .int v_this_steps, .ref a_this_step, .ref a_this_with, .int v_this_waiting, .ref a_this_waits, .ref a_this_value, .ref a_this_given, .ref a_this_net, .ref a_this_together, .ref a_this_most, .ref a_this_owes, .ref a_this_can, .ref a_this_row, .ref a_this_before, .ref a_this_to, .ref a_this_on, .ref a_this_load, .ref a_this_lead, .ref a_this_bestLead, .ref a_this_silver])), (a_this_st, .inl (cI, 1951, .inl v_this_st))]) (st := []) (c_X12_debtOf l D cI cJ cZ cH a_this a_this_before a_this_bestLead a_this_can a_this_given a_this_images a_this_isKept a_this_lead a_this_load a_this_most a_this_net a_this_on a_this_owes a_this_row a_this_silver a_this_st a_this_step a_this_to a_this_together a_this_value a_this_waits a_this_with v_this_above v_this_below v_this_st v_this_steps v_this_waiting p0 (6 : Int32) hc_4) gzX12_179 rfl rfl rfl eV_X12_debtOf ⟨Nat.le_of_ble_eq_true rfl, Nat.le_of_ble_eq_true rfl⟩ rfl 0 rfl rfl [0, 1] rfl rfl rfl rfl rfl (Nat.le_of_ble_eq_true rfl) (Nat.le_refl _) (Nat.le_refl _) rfl dX12_breaks_33 ?_
        refine ii_iconst dX12_breaks_36 kcm1 ?_
        refine ii_icmp_eq (tgt := 43) h dX12_breaks_37 (by decide) (fun h => ?_) (fun h => ?_)
        · skip
          refine ii_aload_n 0 dX12_breaks_43 rfl ?_
          refine ii_get (C := RX12) (T := TX12) (N := 25) (ci := 12) izX12 0 rfl rfl 0 (by decide) kX12_7 rfl dX12_breaks_44 ?_
          refine ii_sipush dX12_breaks_47 ks1092 ?_
          refine ii_bipush dX12_breaks_50 kb7 ?_
          refine ii_iload_n 1 dX12_breaks_52 rfl ?_
          refine ii_imul dX12_breaks_53 ?_
          refine ii_iadd dX12_breaks_54 ?_
          refine ii_bipush dX12_breaks_55 kb6 ?_
          refine ii_iadd dX12_breaks_57 ?_
          refine ii_iload_n 2 dX12_breaks_58 rfl ?_
          refine ii_iast (fun g_5 => [(a_this, .inr (12, [.ref a_this_st, .ref a_this_images, .ref a_this_isKept, .long v_this_above, .long v_this_below, .int v_this_steps, .ref a_this_step, .ref a_this_with, .int v_this_waiting, .ref a_this_waits, .ref a_this_value, .ref a_this_given, .ref a_this_net, .ref a_this_together, .ref a_this_most, .ref a_this_owes, .ref a_this_can, .ref a_this_row, .ref a_this_before, .ref a_this_to, .ref a_this_on, .ref a_this_load, .ref a_this_lead, .ref a_this_bestLead, .ref a_this_silver])), (a_this_st, .inl (cI, 1951, .inl g_5))]) h 1 0 rfl rfl dX12_breaks_59 (fun _ => rfl) (fun g_5 h => ?_)
          refine ii_iconst dX12_breaks_60 kc1 ?_
          cases h
          exact hQ _ _ dX12_breaks_61
        · skip
          refine ii_bipush dX12_breaks_40 kbm3 ?_
          cases h
          exact hQ _ _ dX12_breaks_42
    · skip
      refine ii_bipush dX12_breaks_16 kbm2 ?_
      cases h
      exact hQ _ _ dX12_breaks_18
set_option maxHeartbeats 4000000 in
set_option maxRecDepth 100000 in
theorem c_X12_owedOf (l : Launch) (D : va_G) (cI cJ cZ cH : ClassId) (a_this a_this_before a_this_bestLead a_this_can a_this_given a_this_images a_this_isKept a_this_lead a_this_load a_this_most a_this_net a_this_on a_this_owes a_this_row a_this_silver a_this_st a_this_step a_this_to a_this_together a_this_value a_this_waits a_this_with : Nat) (v_this_above : Int64) (v_this_below : Int64) (v_this_given : Nat → Int64) (v_this_st : Nat → Int32) (v_this_step : Nat → Int32) (v_this_steps : Int32) (v_this_value : Nat → Int64) (v_this_waiting : Int32) (v_this_waits : Nat → Int32) (v_this_with : Nat → Int32) (p0 : Int32) (p1 : Int32) {res : Int64 × (Nat → Int64) × (Nat → Int32) × Int32 × (Nat → Int64) × Int32 × (Nat → Int32) × (Nat → Int32)} (h : F_X12_owedOf v_this_given v_this_st v_this_step v_this_steps v_this_value v_this_waiting v_this_waits v_this_with p0 p1 = some res) : CTl l yX12_owedOf wzX12_owedOf { frames := 5, cells := 0, slots := 0, locals := 124 } D [(cI, .int), (cJ, .long), (cZ, .boolean), (cH, .object "TinHouse$House")] [.ref a_this, .int p0, .int p1] [(a_this, .inr (12, [.ref a_this_st, .ref a_this_images, .ref a_this_isKept, .long v_this_above, .long v_this_below, .int v_this_steps, .ref a_this_step, .ref a_this_with, .int v_this_waiting, .ref a_this_waits, .ref a_this_value, .ref a_this_given, .ref a_this_net, .ref a_this_together, .ref a_this_most, .ref a_this_owes, .ref a_this_can, .ref a_this_row, .ref a_this_before, .ref a_this_to, .ref a_this_on, .ref a_this_load, .ref a_this_lead, .ref a_this_bestLead, .ref a_this_silver])), (a_this_given, .inl (cJ, 5, .inr (.inl v_this_given))), (a_this_st, .inl (cI, 1951, .inl v_this_st)), (a_this_step, .inl (cI, 70, .inl v_this_step)), (a_this_value, .inl (cJ, 70, .inr (.inl v_this_value))), (a_this_waits, .inl (cI, 70, .inl v_this_waits)), (a_this_with, .inl (cI, 70, .inl v_this_with))] res.1 [(a_this, .inr (12, [.ref a_this_st, .ref a_this_images, .ref a_this_isKept, .long v_this_above, .long v_this_below, .int res.2.2.2.1, .ref a_this_step, .ref a_this_with, .int res.2.2.2.2.2.1, .ref a_this_waits, .ref a_this_value, .ref a_this_given, .ref a_this_net, .ref a_this_together, .ref a_this_most, .ref a_this_owes, .ref a_this_can, .ref a_this_row, .ref a_this_before, .ref a_this_to, .ref a_this_on, .ref a_this_load, .ref a_this_lead, .ref a_this_bestLead, .ref a_this_silver])), (a_this_given, .inl (cJ, 5, .inr (.inl res.2.1))), (a_this_st, .inl (cI, 1951, .inl v_this_st)), (a_this_step, .inl (cI, 70, .inl res.2.2.1)), (a_this_value, .inl (cJ, 70, .inr (.inl res.2.2.2.2.1))), (a_this_waits, .inl (cI, 70, .inl res.2.2.2.2.2.2.1)), (a_this_with, .inl (cI, 70, .inl res.2.2.2.2.2.2.2))] := by
  unfold F_X12_owedOf at h
  refine ii_metL (own := RX12) (lv0 := [(0, .ref a_this), (1, .int p0), (2, .int p1)]) (by decide) rfl rfl rfl (Nat.le_of_ble_eq_true rfl) (fun {p e s m args below meth c A Q} hQ => ?_)
  refine ii_aload_n 0 dX12_owedOf_0 rfl ?_
  refine ii_iload_n 1 dX12_owedOf_1 rfl ?_
  refine ii_iconst dX12_owedOf_2 kc5 ?_
  obtain ⟨c_1, hc_1, h⟩ := bnd h
  refine ii_callVi (As := [.int p0, .int (5 : Int32)]) (ws' := [(a_this, .inr (12, [.ref a_this_st, .ref a_this_images, .ref a_this_isKept, .long v_this_above, .long v_this_below, .int v_this_steps, .ref a_this_step, .ref a_this_with, .int v_this_waiting, .ref a_this_waits, .ref a_this_value, .ref a_this_given, .ref a_this_net, .ref a_this_together, .ref a_this_most, .ref a_this_owes, .ref a_this_can, .ref a_this_row, .ref a_this_before, .ref a_this_to, .ref a_this_on, .ref a_this_load, .ref a_this_lead, .ref a_this_bestLead, .ref a_this_silver])), (a_this_given, .inl (cJ, 5, .inr (.inl v_this_given))), (a_this_st, .inl (cI, 1951, .inl v_this_st)), (a_this_step, .inl (cI, 70, .inl v_this_step)), (a_this_value, .inl (cJ, 70, .inr (.inl v_this_value))), (a_this_waits, .inl (cI, 70, .inl v_this_waits)), (a_this_with, .inl (cI, 70, .inl v_this_with))]) (st := []) (c_X12_debtOf l D cI cJ cZ cH a_this a_this_before a_this_bestLead a_this_can a_this_given a_this_images a_this_isKept a_this_lead a_this_load a_this_most a_this_net a_this_on a_this_owes a_this_row a_this_silver a_this_st a_this_step a_this_to a_this_together a_this_value a_this_waits a_this_with v_this_above v_this_below v_this_st v_this_steps v_this_waiting p0 (5 : Int32) hc_1) gzX12_179 rfl rfl rfl eV_X12_debtOf ⟨Nat.le_of_ble_eq_true rfl, Nat.le_of_ble_eq_true rfl⟩ rfl 0 rfl rfl [0, 2] rfl rfl rfl rfl rfl (Nat.le_of_ble_eq_true rfl) (Nat.le_refl _) (Nat.le_refl _) rfl dX12_owedOf_3 ?_
  refine ii_iconst dX12_owedOf_6 kcm1 ?_
  refine ii_jn h (fun j_2 => [(a_this, .inr (12, [.ref a_this_st, .ref a_this_images, .ref a_this_isKept, .long v_this_above, .long v_this_below, .int v_this_steps, .ref a_this_step, .ref a_this_with, .int v_this_waiting, .ref a_this_waits, .ref a_this_value, .ref a_this_given, .ref a_this_net, .ref a_this_together, .ref a_this_most, .ref a_this_owes, .ref a_this_can, .ref a_this_row, .ref a_this_before, .ref a_this_to, .ref a_this_on, .ref a_this_load, .ref a_this_lead, .ref a_this_bestLead, .ref a_this_silver])), (a_this_given, .inl (cJ, 5, .inr (.inl v_this_given))), (a_this_st, .inl (cI, 1951, .inl v_this_st)), (a_this_step, .inl (cI, 70, .inl v_this_step)), (a_this_value, .inl (cJ, 70, .inr (.inl v_this_value))), (a_this_waits, .inl (cI, 70, .inl v_this_waits)), (a_this_with, .inl (cI, 70, .inl v_this_with))]) (fun j_2 => [(0, .ref a_this), (1, .int p0), (2, .int p1)]) 37 (fun j_2 => [.int j_2]) (fun j_2 h => ?_) (fun j_2 h hjj_2 => ?_)
  · skip
    refine ii_istore_n (lv' := [(3, .int j_2), (0, .ref a_this), (1, .int p0), (2, .int p1)]) dX12_owedOf_37 rfl (by decide) rfl ?_
    refine ii_iload_n 0 dX12_owedOf_38 rfl ?_
    refine ii_jn h (fun j_5 => [(a_this, .inr (12, [.ref a_this_st, .ref a_this_images, .ref a_this_isKept, .long v_this_above, .long v_this_below, .int v_this_steps, .ref a_this_step, .ref a_this_with, .int v_this_waiting, .ref a_this_waits, .ref a_this_value, .ref a_this_given, .ref a_this_net, .ref a_this_together, .ref a_this_most, .ref a_this_owes, .ref a_this_can, .ref a_this_row, .ref a_this_before, .ref a_this_to, .ref a_this_on, .ref a_this_load, .ref a_this_lead, .ref a_this_bestLead, .ref a_this_silver])), (a_this_given, .inl (cJ, 5, .inr (.inl v_this_given))), (a_this_st, .inl (cI, 1951, .inl v_this_st)), (a_this_step, .inl (cI, 70, .inl v_this_step)), (a_this_value, .inl (cJ, 70, .inr (.inl v_this_value))), (a_this_waits, .inl (cI, 70, .inl v_this_waits)), (a_this_with, .inl (cI, 70, .inl v_this_with))]) (fun j_5 => [(0, .ref a_this), (1, .int p0), (2, .int p1)]) 59 (fun j_5 => [.long j_5]) (fun j_5 h => ?_) (fun j_5 h hjj_5 => ?_)
    · skip
      refine ii_lstore (lv' := [(4, .long j_5), (0, .ref a_this), (1, .int p0), (2, .int p1)]) dX12_owedOf_59 (by decide) rfl ?_
      refine ii_aload_n 1 dX12_owedOf_61 rfl ?_
      refine ii_iload_n 2 dX12_owedOf_62 rfl ?_
      refine ii_iconst dX12_owedOf_63 kc1 ?_
      obtain ⟨c_8, hc_8, h⟩ := bnd h
      refine ii_callVi (As := [.int p0, .int (1 : Int32)]) (ws' := [(a_this, .inr (12, [.ref a_this_st, .ref a_this_images, .ref a_this_isKept, .long v_this_above, .long v_this_below, .int v_this_steps, .ref a_this_step, .ref a_this_with, .int v_this_waiting, .ref a_this_waits, .ref a_this_value, .ref a_this_given, .ref a_this_net, .ref a_this_together, .ref a_this_most, .ref a_this_owes, .ref a_this_can, .ref a_this_row, .ref a_this_before, .ref a_this_to, .ref a_this_on, .ref a_this_load, .ref a_this_lead, .ref a_this_bestLead, .ref a_this_silver])), (a_this_given, .inl (cJ, 5, .inr (.inl v_this_given))), (a_this_st, .inl (cI, 1951, .inl v_this_st)), (a_this_step, .inl (cI, 70, .inl v_this_step)), (a_this_value, .inl (cJ, 70, .inr (.inl v_this_value))), (a_this_waits, .inl (cI, 70, .inl v_this_waits)), (a_this_with, .inl (cI, 70, .inl v_this_with))]) (st := []) (c_X12_debtOf l D cI cJ cZ cH a_this a_this_before a_this_bestLead a_this_can a_this_given a_this_images a_this_isKept a_this_lead a_this_load a_this_most a_this_net a_this_on a_this_owes a_this_row a_this_silver a_this_st a_this_step a_this_to a_this_together a_this_value a_this_waits a_this_with v_this_above v_this_below v_this_st v_this_steps v_this_waiting p0 (1 : Int32) hc_8) gzX12_179 rfl rfl rfl eV_X12_debtOf ⟨Nat.le_of_ble_eq_true rfl, Nat.le_of_ble_eq_true rfl⟩ rfl 0 rfl rfl [0, 2] rfl rfl rfl rfl rfl (Nat.le_of_ble_eq_true rfl) (Nat.le_refl _) (Nat.le_refl _) rfl dX12_owedOf_64 ?_
      refine ii_istore (lv' := [(6, .int c_8), (4, .long j_5), (0, .ref a_this), (1, .int p0), (2, .int p1)]) dX12_owedOf_67 (by decide) rfl ?_
      refine ii_aload_n 2 dX12_owedOf_69 rfl ?_
      refine ii_iload_n 3 dX12_owedOf_70 rfl ?_
      refine ii_iconst dX12_owedOf_71 kc3 ?_
      obtain ⟨c_9, hc_9, h⟩ := bnd h
      refine ii_callVi (As := [.int p0, .int (3 : Int32)]) (ws' := [(a_this, .inr (12, [.ref a_this_st, .ref a_this_images, .ref a_this_isKept, .long v_this_above, .long v_this_below, .int v_this_steps, .ref a_this_step, .ref a_this_with, .int v_this_waiting, .ref a_this_waits, .ref a_this_value, .ref a_this_given, .ref a_this_net, .ref a_this_together, .ref a_this_most, .ref a_this_owes, .ref a_this_can, .ref a_this_row, .ref a_this_before, .ref a_this_to, .ref a_this_on, .ref a_this_load, .ref a_this_lead, .ref a_this_bestLead, .ref a_this_silver])), (a_this_given, .inl (cJ, 5, .inr (.inl v_this_given))), (a_this_st, .inl (cI, 1951, .inl v_this_st)), (a_this_step, .inl (cI, 70, .inl v_this_step)), (a_this_value, .inl (cJ, 70, .inr (.inl v_this_value))), (a_this_waits, .inl (cI, 70, .inl v_this_waits)), (a_this_with, .inl (cI, 70, .inl v_this_with))]) (st := []) (c_X12_debtOf l D cI cJ cZ cH a_this a_this_before a_this_bestLead a_this_can a_this_given a_this_images a_this_isKept a_this_lead a_this_load a_this_most a_this_net a_this_on a_this_owes a_this_row a_this_silver a_this_st a_this_step a_this_to a_this_together a_this_value a_this_waits a_this_with v_this_above v_this_below v_this_st v_this_steps v_this_waiting p0 (3 : Int32) hc_9) gzX12_179 rfl rfl rfl eV_X12_debtOf ⟨Nat.le_of_ble_eq_true rfl, Nat.le_of_ble_eq_true rfl⟩ rfl 0 rfl rfl [0, 2] rfl rfl rfl rfl rfl (Nat.le_of_ble_eq_true rfl) (Nat.le_refl _) (Nat.le_refl _) rfl dX12_owedOf_72 ?_
      refine ii_istore (lv' := [(7, .int c_9), (6, .int c_8), (4, .long j_5), (0, .ref a_this), (1, .int p0), (2, .int p1)]) dX12_owedOf_75 (by decide) rfl ?_
      refine ii_lv [3, 4, 5, 2, 1, 0] rfl ?_
      obtain ⟨x_11, hl_10, h⟩ := bnd h
      refine ii_loopX (fun s_10 => [(a_this, .inr (12, [.ref a_this_st, .ref a_this_images, .ref a_this_isKept, .long v_this_above, .long v_this_below, .int s_10.2.2.2.2.1, .ref a_this_step, .ref a_this_with, .int s_10.2.2.2.2.2.2.1, .ref a_this_waits, .ref a_this_value, .ref a_this_given, .ref a_this_net, .ref a_this_together, .ref a_this_most, .ref a_this_owes, .ref a_this_can, .ref a_this_row, .ref a_this_before, .ref a_this_to, .ref a_this_on, .ref a_this_load, .ref a_this_lead, .ref a_this_bestLead, .ref a_this_silver])), (a_this_given, .inl (cJ, 5, .inr (.inl s_10.2.2.1))), (a_this_st, .inl (cI, 1951, .inl v_this_st)), (a_this_step, .inl (cI, 70, .inl s_10.2.2.2.1)), (a_this_value, .inl (cJ, 70, .inr (.inl s_10.2.2.2.2.2.1))), (a_this_waits, .inl (cI, 70, .inl s_10.2.2.2.2.2.2.2.1)), (a_this_with, .inl (cI, 70, .inl s_10.2.2.2.2.2.2.2.2))]) (fun s_10 => [(0, .ref a_this), (1, .int p0), (2, .int p1), (4, .long s_10.1), (6, .int c_8), (7, .int s_10.2.1)]) (fun x_11 => [(a_this, .inr (12, [.ref a_this_st, .ref a_this_images, .ref a_this_isKept, .long v_this_above, .long v_this_below, .int x_11.2.2.2.2.1, .ref a_this_step, .ref a_this_with, .int x_11.2.2.2.2.2.2.1, .ref a_this_waits, .ref a_this_value, .ref a_this_given, .ref a_this_net, .ref a_this_together, .ref a_this_most, .ref a_this_owes, .ref a_this_can, .ref a_this_row, .ref a_this_before, .ref a_this_to, .ref a_this_on, .ref a_this_load, .ref a_this_lead, .ref a_this_bestLead, .ref a_this_silver])), (a_this_given, .inl (cJ, 5, .inr (.inl x_11.2.2.1))), (a_this_st, .inl (cI, 1951, .inl v_this_st)), (a_this_step, .inl (cI, 70, .inl x_11.2.2.2.1)), (a_this_value, .inl (cJ, 70, .inr (.inl x_11.2.2.2.2.2.1))), (a_this_waits, .inl (cI, 70, .inl x_11.2.2.2.2.2.2.2.1)), (a_this_with, .inl (cI, 70, .inl x_11.2.2.2.2.2.2.2.2))]) (fun x_11 => [(0, .ref a_this), (1, .int p0), (2, .int p1), (4, .long x_11.1)]) 253 hl_10 rfl rfl ?_ (fun s_10 o h hb_10 hr_10 hx_10 => ?_)
      · skip
        refine ii_iload_n 2 dX12_owedOf_253 rfl ?_
        refine ii_aload_n 0 dX12_owedOf_254 rfl ?_
        refine ii_iload_n 1 dX12_owedOf_255 rfl ?_
        refine ii_iconst dX12_owedOf_256 kc3 ?_
        obtain ⟨c_33, hc_33, h⟩ := bnd h
        refine ii_callVi (As := [.int p0, .int (3 : Int32)]) (ws' := [(a_this, .inr (12, [.ref a_this_st, .ref a_this_images, .ref a_this_isKept, .long v_this_above, .long v_this_below, .int x_11.2.2.2.2.1, .ref a_this_step, .ref a_this_with, .int x_11.2.2.2.2.2.2.1, .ref a_this_waits, .ref a_this_value, .ref a_this_given, .ref a_this_net, .ref a_this_together, .ref a_this_most, .ref a_this_owes, .ref a_this_can, .ref a_this_row, .ref a_this_before, .ref a_this_to, .ref a_this_on, .ref a_this_load, .ref a_this_lead, .ref a_this_bestLead, .ref a_this_silver])), (a_this_given, .inl (cJ, 5, .inr (.inl x_11.2.2.1))), (a_this_st, .inl (cI, 1951, .inl v_this_st)), (a_this_step, .inl (cI, 70, .inl x_11.2.2.2.1)), (a_this_value, .inl (cJ, 70, .inr (.inl x_11.2.2.2.2.2.1))), (a_this_waits, .inl (cI, 70, .inl x_11.2.2.2.2.2.2.2.1)), (a_this_with, .inl (cI, 70, .inl x_11.2.2.2.2.2.2.2.2))]) (st := [.int p1]) (c_X12_debtOf l D cI cJ cZ cH a_this a_this_before a_this_bestLead a_this_can a_this_given a_this_images a_this_isKept a_this_lead a_this_load a_this_most a_this_net a_this_on a_this_owes a_this_row a_this_silver a_this_st a_this_step a_this_to a_this_together a_this_value a_this_waits a_this_with v_this_above v_this_below v_this_st x_11.2.2.2.2.1 x_11.2.2.2.2.2.2.1 p0 (3 : Int32) hc_33) gzX12_179 rfl rfl rfl eV_X12_debtOf ⟨Nat.le_of_ble_eq_true rfl, Nat.le_of_ble_eq_true rfl⟩ rfl 0 rfl rfl [0, 2] rfl rfl rfl rfl rfl (Nat.le_of_ble_eq_true rfl) (Nat.le_refl _) (Nat.le_refl _) rfl dX12_owedOf_257 ?_
        refine ii_jn h (fun j_34 => [(a_this, .inr (12, [.ref a_this_st, .ref a_this_images, .ref a_this_isKept, .long v_this_above, .long v_this_below, .int x_11.2.2.2.2.1, .ref a_this_step, .ref a_this_with, .int x_11.2.2.2.2.2.2.1, .ref a_this_waits, .ref a_this_value, .ref a_this_given, .ref a_this_net, .ref a_this_together, .ref a_this_most, .ref a_this_owes, .ref a_this_can, .ref a_this_row, .ref a_this_before, .ref a_this_to, .ref a_this_on, .ref a_this_load, .ref a_this_lead, .ref a_this_bestLead, .ref a_this_silver])), (a_this_given, .inl (cJ, 5, .inr (.inl x_11.2.2.1))), (a_this_st, .inl (cI, 1951, .inl v_this_st)), (a_this_step, .inl (cI, 70, .inl x_11.2.2.2.1)), (a_this_value, .inl (cJ, 70, .inr (.inl x_11.2.2.2.2.2.1))), (a_this_waits, .inl (cI, 70, .inl x_11.2.2.2.2.2.2.2.1)), (a_this_with, .inl (cI, 70, .inl x_11.2.2.2.2.2.2.2.2))]) (fun j_34 => []) 269 (fun j_34 => [.long j_34]) (fun j_34 h => ?_) (fun j_34 h hjj_34 => ?_)
        · skip
          cases h
          exact hQ _ _ dX12_owedOf_269
        · skip
          refine ii_icmp_ge (tgt := 267) h dX12_owedOf_260 (by decide) (fun h => ?_) (fun h => ?_)
          · skip
            refine ii_lload 3 dX12_owedOf_267 rfl ?_
            refine ii_lv [] rfl ?_
            cases h
            exact hjj_34
          · skip
            refine ii_lconst dX12_owedOf_263 kl0 ?_
            refine ii_goto (tgt := 269) dX12_owedOf_264 (by decide) ?_
            refine ii_lv [] rfl ?_
            cases h
            exact hjj_34
      · skip
        refine ii_iload 5 dX12_owedOf_77 rfl ?_
        refine ii_iload_n 2 dX12_owedOf_79 rfl ?_
        refine ii_icmp_gt (tgt := 253) h dX12_owedOf_80 (by decide) (fun h => ?_) (fun h => ?_)
        · skip
          refine ii_lv [0, 1, 2, 3] rfl ?_
          cases h
          exact hx_10 (s_10.1, s_10.2.1, s_10.2.2.1, s_10.2.2.2.1, s_10.2.2.2.2.1, s_10.2.2.2.2.2.1, s_10.2.2.2.2.2.2.1, s_10.2.2.2.2.2.2.2.1, s_10.2.2.2.2.2.2.2.2) (hr_10 _ rfl)
        · skip
          refine ii_iconst dX12_owedOf_83 kc0 ?_
          refine ii_istore (lv' := [(8, .int (0 : Int32)), (0, .ref a_this), (1, .int p0), (2, .int p1), (4, .long s_10.1), (6, .int c_8), (7, .int s_10.2.1)]) dX12_owedOf_84 (by decide) rfl ?_
          refine ii_lv [1, 2, 3, 4, 5, 6, 0] rfl ?_
          obtain ⟨x_13, hl_12, h⟩ := bnd h
          refine ii_loopX (fun s_12 => [(a_this, .inr (12, [.ref a_this_st, .ref a_this_images, .ref a_this_isKept, .long v_this_above, .long v_this_below, .int s_10.2.2.2.2.1, .ref a_this_step, .ref a_this_with, .int s_10.2.2.2.2.2.2.1, .ref a_this_waits, .ref a_this_value, .ref a_this_given, .ref a_this_net, .ref a_this_together, .ref a_this_most, .ref a_this_owes, .ref a_this_can, .ref a_this_row, .ref a_this_before, .ref a_this_to, .ref a_this_on, .ref a_this_load, .ref a_this_lead, .ref a_this_bestLead, .ref a_this_silver])), (a_this_given, .inl (cJ, 5, .inr (.inl s_10.2.2.1))), (a_this_st, .inl (cI, 1951, .inl v_this_st)), (a_this_step, .inl (cI, 70, .inl s_10.2.2.2.1)), (a_this_value, .inl (cJ, 70, .inr (.inl s_10.2.2.2.2.2.1))), (a_this_waits, .inl (cI, 70, .inl s_10.2.2.2.2.2.2.2.1)), (a_this_with, .inl (cI, 70, .inl s_10.2.2.2.2.2.2.2.2))]) (fun s_12 => [(0, .ref a_this), (1, .int p0), (2, .int p1), (4, .long s_12.1), (6, .int c_8), (7, .int s_10.2.1), (8, .int s_12.2)]) (fun x_13 => [(a_this, .inr (12, [.ref a_this_st, .ref a_this_images, .ref a_this_isKept, .long v_this_above, .long v_this_below, .int s_10.2.2.2.2.1, .ref a_this_step, .ref a_this_with, .int s_10.2.2.2.2.2.2.1, .ref a_this_waits, .ref a_this_value, .ref a_this_given, .ref a_this_net, .ref a_this_together, .ref a_this_most, .ref a_this_owes, .ref a_this_can, .ref a_this_row, .ref a_this_before, .ref a_this_to, .ref a_this_on, .ref a_this_load, .ref a_this_lead, .ref a_this_bestLead, .ref a_this_silver])), (a_this_given, .inl (cJ, 5, .inr (.inl s_10.2.2.1))), (a_this_st, .inl (cI, 1951, .inl v_this_st)), (a_this_step, .inl (cI, 70, .inl s_10.2.2.2.1)), (a_this_value, .inl (cJ, 70, .inr (.inl s_10.2.2.2.2.2.1))), (a_this_waits, .inl (cI, 70, .inl s_10.2.2.2.2.2.2.2.1)), (a_this_with, .inl (cI, 70, .inl s_10.2.2.2.2.2.2.2.2))]) (fun x_13 => [(0, .ref a_this), (1, .int p0), (2, .int p1), (4, .long x_13.1), (6, .int c_8), (7, .int s_10.2.1)]) 173 hl_12 rfl rfl ?_ (fun s_12 o h hb_12 hr_12 hx_12 => ?_)
          · skip
            refine ii_iload 5 dX12_owedOf_173 rfl ?_
            refine ii_aload_n 0 dX12_owedOf_175 rfl ?_
            refine ii_iload_n 1 dX12_owedOf_176 rfl ?_
            refine ii_iconst dX12_owedOf_177 kc4 ?_
            obtain ⟨c_23, hc_23, h⟩ := bnd h
            refine ii_callVi (As := [.int p0, .int (4 : Int32)]) (ws' := [(a_this, .inr (12, [.ref a_this_st, .ref a_this_images, .ref a_this_isKept, .long v_this_above, .long v_this_below, .int s_10.2.2.2.2.1, .ref a_this_step, .ref a_this_with, .int s_10.2.2.2.2.2.2.1, .ref a_this_waits, .ref a_this_value, .ref a_this_given, .ref a_this_net, .ref a_this_together, .ref a_this_most, .ref a_this_owes, .ref a_this_can, .ref a_this_row, .ref a_this_before, .ref a_this_to, .ref a_this_on, .ref a_this_load, .ref a_this_lead, .ref a_this_bestLead, .ref a_this_silver])), (a_this_given, .inl (cJ, 5, .inr (.inl s_10.2.2.1))), (a_this_st, .inl (cI, 1951, .inl v_this_st)), (a_this_step, .inl (cI, 70, .inl s_10.2.2.2.1)), (a_this_value, .inl (cJ, 70, .inr (.inl s_10.2.2.2.2.2.1))), (a_this_waits, .inl (cI, 70, .inl s_10.2.2.2.2.2.2.2.1)), (a_this_with, .inl (cI, 70, .inl s_10.2.2.2.2.2.2.2.2))]) (st := [.int s_10.2.1]) (c_X12_debtOf l D cI cJ cZ cH a_this a_this_before a_this_bestLead a_this_can a_this_given a_this_images a_this_isKept a_this_lead a_this_load a_this_most a_this_net a_this_on a_this_owes a_this_row a_this_silver a_this_st a_this_step a_this_to a_this_together a_this_value a_this_waits a_this_with v_this_above v_this_below v_this_st s_10.2.2.2.2.1 s_10.2.2.2.2.2.2.1 p0 (4 : Int32) hc_23) gzX12_179 rfl rfl rfl eV_X12_debtOf ⟨Nat.le_of_ble_eq_true rfl, Nat.le_of_ble_eq_true rfl⟩ rfl 0 rfl rfl [0, 2] rfl rfl rfl rfl rfl (Nat.le_of_ble_eq_true rfl) (Nat.le_refl _) (Nat.le_refl _) rfl dX12_owedOf_178 ?_
            refine ii_jn h (fun j_24 => [(a_this, .inr (12, [.ref a_this_st, .ref a_this_images, .ref a_this_isKept, .long v_this_above, .long v_this_below, .int j_24.2.2.2.1, .ref a_this_step, .ref a_this_with, .int j_24.2.2.2.2.2.1, .ref a_this_waits, .ref a_this_value, .ref a_this_given, .ref a_this_net, .ref a_this_together, .ref a_this_most, .ref a_this_owes, .ref a_this_can, .ref a_this_row, .ref a_this_before, .ref a_this_to, .ref a_this_on, .ref a_this_load, .ref a_this_lead, .ref a_this_bestLead, .ref a_this_silver])), (a_this_given, .inl (cJ, 5, .inr (.inl j_24.2.1))), (a_this_st, .inl (cI, 1951, .inl v_this_st)), (a_this_step, .inl (cI, 70, .inl j_24.2.2.1)), (a_this_value, .inl (cJ, 70, .inr (.inl j_24.2.2.2.2.1))), (a_this_waits, .inl (cI, 70, .inl j_24.2.2.2.2.2.2.1)), (a_this_with, .inl (cI, 70, .inl j_24.2.2.2.2.2.2.2))]) (fun j_24 => [(0, .ref a_this), (1, .int p0), (2, .int p1), (4, .long j_24.1), (6, .int c_8), (7, .int s_10.2.1)]) 247 (fun j_24 => []) (fun j_24 h => ?_) (fun j_24 h hjj_24 => ?_)
            · skip
              refine ii_iinc (fun x_32 => [(7, .int x_32), (0, .ref a_this), (1, .int p0), (2, .int p1), (4, .long j_24.1), (6, .int c_8)]) h 5 dX12_owedOf_247 rfl kc1 (by decide) (fun _ => rfl) (fun x_32 h => ?_)
              refine ii_goto (tgt := 77) dX12_owedOf_250 (by decide) ?_
              refine ii_lv [1, 2, 3, 4, 5, 0] rfl ?_
              cases h
              exact hb_10 (j_24.1, x_32, j_24.2.1, j_24.2.2.1, j_24.2.2.2.1, j_24.2.2.2.2.1, j_24.2.2.2.2.2.1, j_24.2.2.2.2.2.2.1, j_24.2.2.2.2.2.2.2) rfl
            · skip
              refine ii_icmp_le (tgt := 247) h dX12_owedOf_181 (by decide) (fun h => ?_) (fun h => ?_)
              · skip
                cases h
                exact hjj_24
              · skip
                refine ii_lload 3 dX12_owedOf_184 rfl ?_
                refine ii_lload 3 dX12_owedOf_186 rfl ?_
                refine ii_aload_n 0 dX12_owedOf_188 rfl ?_
                refine ii_iconst dX12_owedOf_189 kc1 ?_
                refine ii_iconst dX12_owedOf_190 kc0 ?_
                refine ii_aload_n 0 dX12_owedOf_191 rfl ?_
                refine ii_aload_n 0 dX12_owedOf_192 rfl ?_
                refine ii_iload_n 1 dX12_owedOf_193 rfl ?_
                refine ii_iconst dX12_owedOf_194 kc0 ?_
                obtain ⟨c_25, hc_25, h⟩ := bnd h
                refine ii_callVi (As := [.int p0, .int (0 : Int32)]) (ws' := [(a_this, .inr (12, [.ref a_this_st, .ref a_this_images, .ref a_this_isKept, .long v_this_above, .long v_this_below, .int s_10.2.2.2.2.1, .ref a_this_step, .ref a_this_with, .int s_10.2.2.2.2.2.2.1, .ref a_this_waits, .ref a_this_value, .ref a_this_given, .ref a_this_net, .ref a_this_together, .ref a_this_most, .ref a_this_owes, .ref a_this_can, .ref a_this_row, .ref a_this_before, .ref a_this_to, .ref a_this_on, .ref a_this_load, .ref a_this_lead, .ref a_this_bestLead, .ref a_this_silver])), (a_this_given, .inl (cJ, 5, .inr (.inl s_10.2.2.1))), (a_this_st, .inl (cI, 1951, .inl v_this_st)), (a_this_step, .inl (cI, 70, .inl s_10.2.2.2.1)), (a_this_value, .inl (cJ, 70, .inr (.inl s_10.2.2.2.2.2.1))), (a_this_waits, .inl (cI, 70, .inl s_10.2.2.2.2.2.2.2.1)), (a_this_with, .inl (cI, 70, .inl s_10.2.2.2.2.2.2.2.2))]) (st := [.ref a_this, .int (0 : Int32), .int (1 : Int32), .ref a_this, .long x_13.1, .long x_13.1]) (c_X12_debtOf l D cI cJ cZ cH a_this a_this_before a_this_bestLead a_this_can a_this_given a_this_images a_this_isKept a_this_lead a_this_load a_this_most a_this_net a_this_on a_this_owes a_this_row a_this_silver a_this_st a_this_step a_this_to a_this_together a_this_value a_this_waits a_this_with v_this_above v_this_below v_this_st s_10.2.2.2.2.1 s_10.2.2.2.2.2.2.1 p0 (0 : Int32) hc_25) gzX12_179 rfl rfl rfl eV_X12_debtOf ⟨Nat.le_of_ble_eq_true rfl, Nat.le_of_ble_eq_true rfl⟩ rfl 0 rfl rfl [0, 2] rfl rfl rfl rfl rfl (Nat.le_of_ble_eq_true rfl) (Nat.le_refl _) (Nat.le_refl _) rfl dX12_owedOf_195 ?_
                refine ii_iload 4 dX12_owedOf_198 rfl ?_
                obtain ⟨c_26, hc_26, h⟩ := bnd h
                refine ii_callVi (As := [.int c_25, .int c_8]) (ws' := [(a_this, .inr (12, [.ref a_this_st, .ref a_this_images, .ref a_this_isKept, .long v_this_above, .long v_this_below, .int s_10.2.2.2.2.1, .ref a_this_step, .ref a_this_with, .int s_10.2.2.2.2.2.2.1, .ref a_this_waits, .ref a_this_value, .ref a_this_given, .ref a_this_net, .ref a_this_together, .ref a_this_most, .ref a_this_owes, .ref a_this_can, .ref a_this_row, .ref a_this_before, .ref a_this_to, .ref a_this_on, .ref a_this_load, .ref a_this_lead, .ref a_this_bestLead, .ref a_this_silver])), (a_this_given, .inl (cJ, 5, .inr (.inl s_10.2.2.1))), (a_this_st, .inl (cI, 1951, .inl v_this_st)), (a_this_step, .inl (cI, 70, .inl s_10.2.2.2.1)), (a_this_value, .inl (cJ, 70, .inr (.inl s_10.2.2.2.2.2.1))), (a_this_waits, .inl (cI, 70, .inl s_10.2.2.2.2.2.2.2.1)), (a_this_with, .inl (cI, 70, .inl s_10.2.2.2.2.2.2.2.2))]) (st := [.int (0 : Int32), .int (1 : Int32), .ref a_this, .long x_13.1, .long x_13.1]) (c_X12_kin l D cI cJ cZ cH a_this a_this_before a_this_bestLead a_this_can a_this_given a_this_images a_this_isKept a_this_lead a_this_load a_this_most a_this_net a_this_on a_this_owes a_this_row a_this_silver a_this_st a_this_step a_this_to a_this_together a_this_value a_this_waits a_this_with v_this_above v_this_below v_this_st s_10.2.2.2.2.1 s_10.2.2.2.2.2.2.1 c_25 c_8 hc_26) gzX12_182 rfl rfl rfl eV_X12_kin ⟨Nat.le_of_ble_eq_true rfl, Nat.le_of_ble_eq_true rfl⟩ rfl 0 rfl rfl [0, 2] rfl rfl rfl rfl rfl (Nat.le_of_ble_eq_true rfl) (Nat.le_refl _) (Nat.le_refl _) rfl dX12_owedOf_200 ?_
                refine ii_aload_n 0 dX12_owedOf_203 rfl ?_
                refine ii_iload 4 dX12_owedOf_204 rfl ?_
                obtain ⟨c_27, hc_27, h⟩ := bnd h
                refine ii_callVi (As := [.int c_8]) (ws' := [(a_this, .inr (12, [.ref a_this_st, .ref a_this_images, .ref a_this_isKept, .long v_this_above, .long v_this_below, .int s_10.2.2.2.2.1, .ref a_this_step, .ref a_this_with, .int s_10.2.2.2.2.2.2.1, .ref a_this_waits, .ref a_this_value, .ref a_this_given, .ref a_this_net, .ref a_this_together, .ref a_this_most, .ref a_this_owes, .ref a_this_can, .ref a_this_row, .ref a_this_before, .ref a_this_to, .ref a_this_on, .ref a_this_load, .ref a_this_lead, .ref a_this_bestLead, .ref a_this_silver])), (a_this_given, .inl (cJ, 5, .inr (.inl s_10.2.2.1))), (a_this_st, .inl (cI, 1951, .inl v_this_st)), (a_this_step, .inl (cI, 70, .inl s_10.2.2.2.1)), (a_this_value, .inl (cJ, 70, .inr (.inl s_10.2.2.2.2.2.1))), (a_this_waits, .inl (cI, 70, .inl s_10.2.2.2.2.2.2.2.1)), (a_this_with, .inl (cI, 70, .inl s_10.2.2.2.2.2.2.2.2))]) (st := [.int c_26, .int (0 : Int32), .int (1 : Int32), .ref a_this, .long x_13.1, .long x_13.1]) (c_X12_town l D cI cJ cZ cH a_this a_this_before a_this_bestLead a_this_can a_this_given a_this_images a_this_isKept a_this_lead a_this_load a_this_most a_this_net a_this_on a_this_owes a_this_row a_this_silver a_this_st a_this_step a_this_to a_this_together a_this_value a_this_waits a_this_with v_this_above v_this_below v_this_st s_10.2.2.2.2.1 s_10.2.2.2.2.2.2.1 c_8 hc_27) gzX12_185 rfl rfl rfl eV_X12_town ⟨Nat.le_of_ble_eq_true rfl, Nat.le_of_ble_eq_true rfl⟩ rfl 0 rfl rfl [0, 2] rfl rfl rfl rfl rfl (Nat.le_of_ble_eq_true rfl) (Nat.le_refl _) (Nat.le_refl _) rfl dX12_owedOf_206 ?_
                refine ii_iload 5 dX12_owedOf_209 rfl ?_
                refine ii_lload 3 dX12_owedOf_211 rfl ?_
                refine ii_sipush dX12_owedOf_213 ks1000 ?_
                obtain ⟨c_28, hc_28, h⟩ := bnd h
                refine ii_callVi (As := [.int (1 : Int32), .int (0 : Int32), .int c_26, .int c_27, .int s_10.2.1, .long x_13.1, .int (1000 : Int32)]) (ws' := [(a_this, .inr (12, [.ref a_this_st, .ref a_this_images, .ref a_this_isKept, .long v_this_above, .long v_this_below, .int c_28.2.2.2.1, .ref a_this_step, .ref a_this_with, .int c_28.2.2.2.2.2.1, .ref a_this_waits, .ref a_this_value, .ref a_this_given, .ref a_this_net, .ref a_this_together, .ref a_this_most, .ref a_this_owes, .ref a_this_can, .ref a_this_row, .ref a_this_before, .ref a_this_to, .ref a_this_on, .ref a_this_load, .ref a_this_lead, .ref a_this_bestLead, .ref a_this_silver])), (a_this_given, .inl (cJ, 5, .inr (.inl c_28.2.1))), (a_this_st, .inl (cI, 1951, .inl v_this_st)), (a_this_step, .inl (cI, 70, .inl c_28.2.2.1)), (a_this_value, .inl (cJ, 70, .inr (.inl c_28.2.2.2.2.1))), (a_this_waits, .inl (cI, 70, .inl c_28.2.2.2.2.2.2.1)), (a_this_with, .inl (cI, 70, .inl c_28.2.2.2.2.2.2.2))]) (st := [.long x_13.1, .long x_13.1]) (c_X12_told l D cI cJ cZ cH a_this a_this_before a_this_bestLead a_this_can a_this_given a_this_images a_this_isKept a_this_lead a_this_load a_this_most a_this_net a_this_on a_this_owes a_this_row a_this_silver a_this_st a_this_step a_this_to a_this_together a_this_value a_this_waits a_this_with v_this_above v_this_below s_10.2.2.1 v_this_st s_10.2.2.2.1 s_10.2.2.2.2.1 s_10.2.2.2.2.2.1 s_10.2.2.2.2.2.2.1 s_10.2.2.2.2.2.2.2.1 s_10.2.2.2.2.2.2.2.2 (1 : Int32) (0 : Int32) c_26 c_27 s_10.2.1 x_13.1 (1000 : Int32) hc_28) gzX12_188 rfl rfl rfl eV_X12_told ⟨Nat.le_of_ble_eq_true rfl, Nat.le_of_ble_eq_true rfl⟩ rfl 0 rfl rfl [0, 1, 2, 3, 4, 5, 6] rfl rfl rfl rfl rfl (Nat.le_of_ble_eq_true rfl) (Nat.le_refl _) (Nat.le_refl _) rfl dX12_owedOf_216 ?_
                refine ii_i2l dX12_owedOf_219 ?_
                refine ii_lmul dX12_owedOf_220 ?_
                refine ii_ldc2 (v := 1000) dX12_owedOf_221 kX12_192 ?_
                refine ii_ldiv h dX12_owedOf_224 (fun t_29 h => ?_)
                refine ii_ladd dX12_owedOf_225 ?_
                refine ii_topL h (fun x_30 h => ?_)
                refine ii_lstore (lv' := [(4, .long x_30), (0, .ref a_this), (1, .int p0), (2, .int p1), (6, .int c_8), (7, .int s_10.2.1)]) dX12_owedOf_226 (by decide) rfl ?_
                refine ii_lload 0 dX12_owedOf_228 rfl ?_
                refine ii_ldc2 (v := 1000000000000) dX12_owedOf_230 kX12_194 ?_
                refine ii_jn h (fun j_31 => [(a_this, .inr (12, [.ref a_this_st, .ref a_this_images, .ref a_this_isKept, .long v_this_above, .long v_this_below, .int c_28.2.2.2.1, .ref a_this_step, .ref a_this_with, .int c_28.2.2.2.2.2.1, .ref a_this_waits, .ref a_this_value, .ref a_this_given, .ref a_this_net, .ref a_this_together, .ref a_this_most, .ref a_this_owes, .ref a_this_can, .ref a_this_row, .ref a_this_before, .ref a_this_to, .ref a_this_on, .ref a_this_load, .ref a_this_lead, .ref a_this_bestLead, .ref a_this_silver])), (a_this_given, .inl (cJ, 5, .inr (.inl c_28.2.1))), (a_this_st, .inl (cI, 1951, .inl v_this_st)), (a_this_step, .inl (cI, 70, .inl c_28.2.2.1)), (a_this_value, .inl (cJ, 70, .inr (.inl c_28.2.2.2.2.1))), (a_this_waits, .inl (cI, 70, .inl c_28.2.2.2.2.2.2.1)), (a_this_with, .inl (cI, 70, .inl c_28.2.2.2.2.2.2.2))]) (fun j_31 => [(0, .ref a_this), (1, .int p0), (2, .int p1), (6, .int c_8), (7, .int s_10.2.1)]) 245 (fun j_31 => [.long j_31]) (fun j_31 h => ?_) (fun j_31 h hjj_31 => ?_)
                · skip
                  refine ii_lstore (lv' := [(4, .long j_31), (0, .ref a_this), (1, .int p0), (2, .int p1), (6, .int c_8), (7, .int s_10.2.1)]) dX12_owedOf_245 (by decide) rfl ?_
                  refine ii_lv [1, 2, 3, 0, 4, 5] rfl ?_
                  cases h
                  exact hjj_24
                · skip
                  refine ii_lcmp_le (tgt := 243) h dX12_owedOf_233 dX12_owedOf_234 (by decide) (fun h => ?_) (fun h => ?_)
                  · skip
                    refine ii_lload 0 dX12_owedOf_243 rfl ?_
                    refine ii_lv [1, 2, 3, 4, 5] rfl ?_
                    cases h
                    exact hjj_31
                  · skip
                    refine ii_ldc2 (v := 1000000000000) dX12_owedOf_237 kX12_194 ?_
                    refine ii_goto (tgt := 245) dX12_owedOf_240 (by decide) ?_
                    refine ii_lv [1, 2, 3, 4, 5] rfl ?_
                    cases h
                    exact hjj_31
          · skip
            refine ii_iload 6 dX12_owedOf_86 rfl ?_
            refine ii_aload_n 0 dX12_owedOf_88 rfl ?_
            refine ii_get (C := RX12) (T := TX12) (N := 25) (ci := 12) izX12 0 rfl rfl 0 (by decide) kX12_7 rfl dX12_owedOf_89 ?_
            refine ii_iconst dX12_owedOf_92 kc3 ?_
            refine ii_iald h 2 0 rfl rfl dX12_owedOf_93 (fun t_14 h => ?_)
            refine ii_icmp_ge (tgt := 173) h dX12_owedOf_94 (by decide) (fun h => ?_) (fun h => ?_)
            · skip
              refine ii_lv [0, 1, 2, 3, 4, 5] rfl ?_
              cases h
              exact hx_12 (s_12.1, s_12.2) (hr_12 _ rfl)
            · skip
              refine ii_sipush dX12_owedOf_97 ks1372 ?_
              refine ii_iconst dX12_owedOf_100 kc3 ?_
              refine ii_iload 6 dX12_owedOf_101 rfl ?_
              refine ii_imul dX12_owedOf_103 ?_
              refine ii_iadd dX12_owedOf_104 ?_
              refine ii_topI h (fun x_15 h => ?_)
              refine ii_istore (lv' := [(9, .int x_15), (0, .ref a_this), (1, .int p0), (2, .int p1), (4, .long s_12.1), (6, .int c_8), (7, .int s_10.2.1), (8, .int s_12.2)]) dX12_owedOf_105 (by decide) rfl ?_
              refine ii_aload_n 1 dX12_owedOf_107 rfl ?_
              refine ii_get (C := RX12) (T := TX12) (N := 25) (ci := 12) izX12 0 rfl rfl 0 (by decide) kX12_7 rfl dX12_owedOf_108 ?_
              refine ii_iload 0 dX12_owedOf_111 rfl ?_
              refine ii_iald h 2 0 rfl rfl dX12_owedOf_113 (fun t_16 h => ?_)
              refine ii_iload_n 2 dX12_owedOf_114 rfl ?_
              refine ii_jn h (fun j_17 => [(a_this, .inr (12, [.ref a_this_st, .ref a_this_images, .ref a_this_isKept, .long v_this_above, .long v_this_below, .int s_10.2.2.2.2.1, .ref a_this_step, .ref a_this_with, .int s_10.2.2.2.2.2.2.1, .ref a_this_waits, .ref a_this_value, .ref a_this_given, .ref a_this_net, .ref a_this_together, .ref a_this_most, .ref a_this_owes, .ref a_this_can, .ref a_this_row, .ref a_this_before, .ref a_this_to, .ref a_this_on, .ref a_this_load, .ref a_this_lead, .ref a_this_bestLead, .ref a_this_silver])), (a_this_given, .inl (cJ, 5, .inr (.inl s_10.2.2.1))), (a_this_st, .inl (cI, 1951, .inl v_this_st)), (a_this_step, .inl (cI, 70, .inl s_10.2.2.2.1)), (a_this_value, .inl (cJ, 70, .inr (.inl s_10.2.2.2.2.2.1))), (a_this_waits, .inl (cI, 70, .inl s_10.2.2.2.2.2.2.2.1)), (a_this_with, .inl (cI, 70, .inl s_10.2.2.2.2.2.2.2.2))]) (fun j_17 => [(0, .ref a_this), (1, .int p0), (2, .int p1), (4, .long j_17), (6, .int c_8), (7, .int s_10.2.1), (8, .int s_12.2)]) 167 (fun j_17 => []) (fun j_17 h => ?_) (fun j_17 h hjj_17 => ?_)
              · skip
                refine ii_iinc (fun x_22 => [(8, .int x_22), (0, .ref a_this), (1, .int p0), (2, .int p1), (4, .long j_17), (6, .int c_8), (7, .int s_10.2.1)]) h 6 dX12_owedOf_167 rfl kc1 (by decide) (fun _ => rfl) (fun x_22 h => ?_)
                refine ii_goto (tgt := 86) dX12_owedOf_170 (by decide) ?_
                refine ii_lv [1, 2, 3, 4, 5, 6, 0] rfl ?_
                cases h
                exact hb_12 (j_17, x_22) rfl
              · skip
                refine ii_icmp_ne (tgt := 167) h dX12_owedOf_115 (by decide) (fun h => ?_) (fun h => ?_)
                · skip
                  refine ii_lv [1, 2, 3, 4, 5, 6, 7] rfl ?_
                  cases h
                  exact hjj_17
                · skip
                  refine ii_aload_n 1 dX12_owedOf_118 rfl ?_
                  refine ii_get (C := RX12) (T := TX12) (N := 25) (ci := 12) izX12 0 rfl rfl 0 (by decide) kX12_7 rfl dX12_owedOf_119 ?_
                  refine ii_iload 0 dX12_owedOf_122 rfl ?_
                  refine ii_iconst dX12_owedOf_124 kc1 ?_
                  refine ii_iadd dX12_owedOf_125 ?_
                  refine ii_iald h 2 0 rfl rfl dX12_owedOf_126 (fun t_18 h => ?_)
                  refine ii_iload 6 dX12_owedOf_127 rfl ?_
                  refine ii_icmp_ne (tgt := 167) h dX12_owedOf_129 (by decide) (fun h => ?_) (fun h => ?_)
                  · skip
                    refine ii_lv [1, 2, 3, 4, 5, 6, 7] rfl ?_
                    cases h
                    exact hjj_17
                  · skip
                    refine ii_lload 4 dX12_owedOf_132 rfl ?_
                    refine ii_aload_n 1 dX12_owedOf_134 rfl ?_
                    refine ii_get (C := RX12) (T := TX12) (N := 25) (ci := 12) izX12 0 rfl rfl 0 (by decide) kX12_7 rfl dX12_owedOf_135 ?_
                    refine ii_iload 0 dX12_owedOf_138 rfl ?_
                    refine ii_iconst dX12_owedOf_140 kc2 ?_
                    refine ii_iadd dX12_owedOf_141 ?_
                    refine ii_iald h 2 0 rfl rfl dX12_owedOf_142 (fun t_19 h => ?_)
                    refine ii_i2l dX12_owedOf_143 ?_
                    refine ii_jn h (fun j_20 => [(a_this, .inr (12, [.ref a_this_st, .ref a_this_images, .ref a_this_isKept, .long v_this_above, .long v_this_below, .int s_10.2.2.2.2.1, .ref a_this_step, .ref a_this_with, .int s_10.2.2.2.2.2.2.1, .ref a_this_waits, .ref a_this_value, .ref a_this_given, .ref a_this_net, .ref a_this_together, .ref a_this_most, .ref a_this_owes, .ref a_this_can, .ref a_this_row, .ref a_this_before, .ref a_this_to, .ref a_this_on, .ref a_this_load, .ref a_this_lead, .ref a_this_bestLead, .ref a_this_silver])), (a_this_given, .inl (cJ, 5, .inr (.inl s_10.2.2.1))), (a_this_st, .inl (cI, 1951, .inl v_this_st)), (a_this_step, .inl (cI, 70, .inl s_10.2.2.2.1)), (a_this_value, .inl (cJ, 70, .inr (.inl s_10.2.2.2.2.2.1))), (a_this_waits, .inl (cI, 70, .inl s_10.2.2.2.2.2.2.2.1)), (a_this_with, .inl (cI, 70, .inl s_10.2.2.2.2.2.2.2.2))]) (fun j_20 => [(0, .ref a_this), (1, .int p0), (2, .int p1), (6, .int c_8), (7, .int s_10.2.1), (8, .int s_12.2)]) 165 (fun j_20 => [.long j_20]) (fun j_20 h => ?_) (fun j_20 h hjj_20 => ?_)
                    · skip
                      refine ii_lstore (lv' := [(4, .long j_20), (0, .ref a_this), (1, .int p0), (2, .int p1), (6, .int c_8), (7, .int s_10.2.1), (8, .int s_12.2)]) dX12_owedOf_165 (by decide) rfl ?_
                      refine ii_lv [1, 2, 3, 0, 4, 5, 6] rfl ?_
                      cases h
                      exact hjj_17
                    · skip
                      refine ii_lcmp_ge (tgt := 152) h dX12_owedOf_144 dX12_owedOf_145 (by decide) (fun h => ?_) (fun h => ?_)
                      · skip
                        refine ii_lload 4 dX12_owedOf_152 rfl ?_
                        refine ii_aload_n 1 dX12_owedOf_154 rfl ?_
                        refine ii_get (C := RX12) (T := TX12) (N := 25) (ci := 12) izX12 0 rfl rfl 0 (by decide) kX12_7 rfl dX12_owedOf_155 ?_
                        refine ii_iload 0 dX12_owedOf_158 rfl ?_
                        refine ii_iconst dX12_owedOf_160 kc2 ?_
                        refine ii_iadd dX12_owedOf_161 ?_
                        refine ii_iald h 2 0 rfl rfl dX12_owedOf_162 (fun t_21 h => ?_)
                        refine ii_i2l dX12_owedOf_163 ?_
                        refine ii_lsub dX12_owedOf_164 ?_
                        refine ii_lv [1, 2, 3, 5, 6, 7] rfl ?_
                        cases h
                        exact hjj_20
                      · skip
                        refine ii_lconst dX12_owedOf_148 kl0 ?_
                        refine ii_goto (tgt := 165) dX12_owedOf_149 (by decide) ?_
                        refine ii_lv [1, 2, 3, 5, 6, 7] rfl ?_
                        cases h
                        exact hjj_20
    · skip
      refine ii_if_eq (tgt := 52) h dX12_owedOf_39 (by decide) (fun h => ?_) (fun h => ?_)
      · skip
        refine ii_aload_n 1 dX12_owedOf_52 rfl ?_
        refine ii_iload_n 2 dX12_owedOf_53 rfl ?_
        refine ii_iconst dX12_owedOf_54 kc2 ?_
        obtain ⟨c_6, hc_6, h⟩ := bnd h
        refine ii_callVi (As := [.int p0, .int (2 : Int32)]) (ws' := [(a_this, .inr (12, [.ref a_this_st, .ref a_this_images, .ref a_this_isKept, .long v_this_above, .long v_this_below, .int v_this_steps, .ref a_this_step, .ref a_this_with, .int v_this_waiting, .ref a_this_waits, .ref a_this_value, .ref a_this_given, .ref a_this_net, .ref a_this_together, .ref a_this_most, .ref a_this_owes, .ref a_this_can, .ref a_this_row, .ref a_this_before, .ref a_this_to, .ref a_this_on, .ref a_this_load, .ref a_this_lead, .ref a_this_bestLead, .ref a_this_silver])), (a_this_given, .inl (cJ, 5, .inr (.inl v_this_given))), (a_this_st, .inl (cI, 1951, .inl v_this_st)), (a_this_step, .inl (cI, 70, .inl v_this_step)), (a_this_value, .inl (cJ, 70, .inr (.inl v_this_value))), (a_this_waits, .inl (cI, 70, .inl v_this_waits)), (a_this_with, .inl (cI, 70, .inl v_this_with))]) (st := []) (c_X12_debtOf l D cI cJ cZ cH a_this a_this_before a_this_bestLead a_this_can a_this_given a_this_images a_this_isKept a_this_lead a_this_load a_this_most a_this_net a_this_on a_this_owes a_this_row a_this_silver a_this_st a_this_step a_this_to a_this_together a_this_value a_this_waits a_this_with v_this_above v_this_below v_this_st v_this_steps v_this_waiting p0 (2 : Int32) hc_6) gzX12_179 rfl rfl rfl eV_X12_debtOf ⟨Nat.le_of_ble_eq_true rfl, Nat.le_of_ble_eq_true rfl⟩ rfl 0 rfl rfl [0, 2] rfl rfl rfl rfl rfl (Nat.le_of_ble_eq_true rfl) (Nat.le_refl _) (Nat.le_refl _) rfl dX12_owedOf_55 ?_
        refine ii_i2l dX12_owedOf_58 ?_
        refine ii_lv [1, 2, 3] rfl ?_
        cases h
        exact hjj_5
      · skip
        refine ii_aload_n 1 dX12_owedOf_42 rfl ?_
        refine ii_iload_n 2 dX12_owedOf_43 rfl ?_
        refine ii_iconst dX12_owedOf_44 kc5 ?_
        obtain ⟨c_7, hc_7, h⟩ := bnd h
        refine ii_callVi (As := [.int p0, .int (5 : Int32)]) (ws' := [(a_this, .inr (12, [.ref a_this_st, .ref a_this_images, .ref a_this_isKept, .long v_this_above, .long v_this_below, .int v_this_steps, .ref a_this_step, .ref a_this_with, .int v_this_waiting, .ref a_this_waits, .ref a_this_value, .ref a_this_given, .ref a_this_net, .ref a_this_together, .ref a_this_most, .ref a_this_owes, .ref a_this_can, .ref a_this_row, .ref a_this_before, .ref a_this_to, .ref a_this_on, .ref a_this_load, .ref a_this_lead, .ref a_this_bestLead, .ref a_this_silver])), (a_this_given, .inl (cJ, 5, .inr (.inl v_this_given))), (a_this_st, .inl (cI, 1951, .inl v_this_st)), (a_this_step, .inl (cI, 70, .inl v_this_step)), (a_this_value, .inl (cJ, 70, .inr (.inl v_this_value))), (a_this_waits, .inl (cI, 70, .inl v_this_waits)), (a_this_with, .inl (cI, 70, .inl v_this_with))]) (st := []) (c_X12_debtOf l D cI cJ cZ cH a_this a_this_before a_this_bestLead a_this_can a_this_given a_this_images a_this_isKept a_this_lead a_this_load a_this_most a_this_net a_this_on a_this_owes a_this_row a_this_silver a_this_st a_this_step a_this_to a_this_together a_this_value a_this_waits a_this_with v_this_above v_this_below v_this_st v_this_steps v_this_waiting p0 (5 : Int32) hc_7) gzX12_179 rfl rfl rfl eV_X12_debtOf ⟨Nat.le_of_ble_eq_true rfl, Nat.le_of_ble_eq_true rfl⟩ rfl 0 rfl rfl [0, 2] rfl rfl rfl rfl rfl (Nat.le_of_ble_eq_true rfl) (Nat.le_refl _) (Nat.le_refl _) rfl dX12_owedOf_45 ?_
        refine ii_i2l dX12_owedOf_48 ?_
        refine ii_goto (tgt := 59) dX12_owedOf_49 (by decide) ?_
        refine ii_lv [1, 2, 3] rfl ?_
        cases h
        exact hjj_5
  · skip
    refine ii_icmp_eq (tgt := 36) h dX12_owedOf_7 (by decide) (fun h => ?_) (fun h => ?_)
    · skip
      refine ii_iconst dX12_owedOf_36 kc0 ?_
      cases h
      exact hjj_2
    · skip
      refine ii_aload_n 0 dX12_owedOf_10 rfl ?_
      refine ii_iload_n 1 dX12_owedOf_11 rfl ?_
      refine ii_bipush dX12_owedOf_12 kb6 ?_
      obtain ⟨c_3, hc_3, h⟩ := bnd h
      refine ii_callVi (As := [.int p0, .int (6 : Int32)]) (ws' := [(a_this, .inr (12, [.ref a_this_st, .ref a_this_images, .ref a_this_isKept, .long v_this_above, .long v_this_below, .int v_this_steps, .ref a_this_step, .ref a_this_with, .int v_this_waiting, .ref a_this_waits, .ref a_this_value, .ref a_this_given, .ref a_this_net, .ref a_this_together, .ref a_this_most, .ref a_this_owes, .ref a_this_can, .ref a_this_row, .ref a_this_before, .ref a_this_to, .ref a_this_on, .ref a_this_load, .ref a_this_lead, .ref a_this_bestLead, .ref a_this_silver])), (a_this_given, .inl (cJ, 5, .inr (.inl v_this_given))), (a_this_st, .inl (cI, 1951, .inl v_this_st)), (a_this_step, .inl (cI, 70, .inl v_this_step)), (a_this_value, .inl (cJ, 70, .inr (.inl v_this_value))), (a_this_waits, .inl (cI, 70, .inl v_this_waits)), (a_this_with, .inl (cI, 70, .inl v_this_with))]) (st := []) (c_X12_debtOf l D cI cJ cZ cH a_this a_this_before a_this_bestLead a_this_can a_this_given a_this_images a_this_isKept a_this_lead a_this_load a_this_most a_this_net a_this_on a_this_owes a_this_row a_this_silver a_this_st a_this_step a_this_to a_this_together a_this_value a_this_waits a_this_with v_this_above v_this_below v_this_st v_this_steps v_this_waiting p0 (6 : Int32) hc_3) gzX12_179 rfl rfl rfl eV_X12_debtOf ⟨Nat.le_of_ble_eq_true rfl, Nat.le_of_ble_eq_true rfl⟩ rfl 0 rfl rfl [0, 2] rfl rfl rfl rfl rfl (Nat.le_of_ble_eq_true rfl) (Nat.le_refl _) (Nat.le_refl _) rfl dX12_owedOf_14 ?_
      refine ii_iconst dX12_owedOf_17 kcm1 ?_
      refine ii_icmp_eq (tgt := 32) h dX12_owedOf_18 (by decide) (fun h => ?_) (fun h => ?_)
      · skip
        refine ii_iconst dX12_owedOf_32 kc1 ?_
        refine ii_goto (tgt := 37) dX12_owedOf_33 (by decide) ?_
        cases h
        exact hjj_2
      · skip
        refine ii_iload_n 2 dX12_owedOf_21 rfl ?_
        refine ii_aload_n 0 dX12_owedOf_22 rfl ?_
        refine ii_iload_n 1 dX12_owedOf_23 rfl ?_
        refine ii_bipush dX12_owedOf_24 kb6 ?_
        obtain ⟨c_4, hc_4, h⟩ := bnd h
        refine ii_callVi (As := [.int p0, .int (6 : Int32)]) (ws' := [(a_this, .inr (12, [.ref a_this_st, .ref a_this_images, .ref a_this_isKept, .long v_this_above, .long v_this_below, .int v_this_steps, .ref a_this_step, .ref a_this_with, .int v_this_waiting, .ref a_this_waits, .ref a_this_value, .ref a_this_given, .ref a_this_net, .ref a_this_together, .ref a_this_most, .ref a_this_owes, .ref a_this_can, .ref a_this_row, .ref a_this_before, .ref a_this_to, .ref a_this_on, .ref a_this_load, .ref a_this_lead, .ref a_this_bestLead, .ref a_this_silver])), (a_this_given, .inl (cJ, 5, .inr (.inl v_this_given))), (a_this_st, .inl (cI, 1951, .inl v_this_st)), (a_this_step, .inl (cI, 70, .inl v_this_step)), (a_this_value, .inl (cJ, 70, .inr (.inl v_this_value))), (a_this_waits, .inl (cI, 70, .inl v_this_waits)), (a_this_with, .inl (cI, 70, .inl v_this_with))]) (st := [.int p1]) (c_X12_debtOf l D cI cJ cZ cH a_this a_this_before a_this_bestLead a_this_can a_this_given a_this_images a_this_isKept a_this_lead a_this_load a_this_most a_this_net a_this_on a_this_owes a_this_row a_this_silver a_this_st a_this_step a_this_to a_this_together a_this_value a_this_waits a_this_with v_this_above v_this_below v_this_st v_this_steps v_this_waiting p0 (6 : Int32) hc_4) gzX12_179 rfl rfl rfl eV_X12_debtOf ⟨Nat.le_of_ble_eq_true rfl, Nat.le_of_ble_eq_true rfl⟩ rfl 0 rfl rfl [0, 2] rfl rfl rfl rfl rfl (Nat.le_of_ble_eq_true rfl) (Nat.le_refl _) (Nat.le_refl _) rfl dX12_owedOf_26 ?_
        refine ii_icmp_ge (tgt := 36) h dX12_owedOf_29 (by decide) (fun h => ?_) (fun h => ?_)
        · skip
          refine ii_iconst dX12_owedOf_36 kc0 ?_
          cases h
          exact hjj_2
        · skip
          refine ii_iconst dX12_owedOf_32 kc1 ?_
          refine ii_goto (tgt := 37) dX12_owedOf_33 (by decide) ?_
          cases h
          exact hjj_2
set_option maxHeartbeats 4000000 in
set_option maxRecDepth 100000 in
theorem c_X12_owed (l : Launch) (D : va_G) (cI cJ cZ cH : ClassId) (a_this a_this_before a_this_bestLead a_this_can a_this_given a_this_images a_this_isKept a_this_lead a_this_load a_this_most a_this_net a_this_on a_this_owes a_this_row a_this_silver a_this_st a_this_step a_this_to a_this_together a_this_value a_this_waits a_this_with : Nat) (v_this_above : Int64) (v_this_below : Int64) (v_this_given : Nat → Int64) (v_this_st : Nat → Int32) (v_this_step : Nat → Int32) (v_this_steps : Int32) (v_this_value : Nat → Int64) (v_this_waiting : Int32) (v_this_waits : Nat → Int32) (v_this_with : Nat → Int32) (p0 : Int32) (p1 : Int32) {res : Int64 × (Nat → Int64) × (Nat → Int32) × Int32 × (Nat → Int64) × Int32 × (Nat → Int32) × (Nat → Int32)} (h : F_X12_owed v_this_given v_this_st v_this_step v_this_steps v_this_value v_this_waiting v_this_waits v_this_with p0 p1 = some res) : CTl l yX12_owed wzX12_owed { frames := 6, cells := 0, slots := 0, locals := 153 } D [(cI, .int), (cJ, .long), (cZ, .boolean), (cH, .object "TinHouse$House")] [.ref a_this, .int p0, .int p1] [(a_this, .inr (12, [.ref a_this_st, .ref a_this_images, .ref a_this_isKept, .long v_this_above, .long v_this_below, .int v_this_steps, .ref a_this_step, .ref a_this_with, .int v_this_waiting, .ref a_this_waits, .ref a_this_value, .ref a_this_given, .ref a_this_net, .ref a_this_together, .ref a_this_most, .ref a_this_owes, .ref a_this_can, .ref a_this_row, .ref a_this_before, .ref a_this_to, .ref a_this_on, .ref a_this_load, .ref a_this_lead, .ref a_this_bestLead, .ref a_this_silver])), (a_this_given, .inl (cJ, 5, .inr (.inl v_this_given))), (a_this_st, .inl (cI, 1951, .inl v_this_st)), (a_this_step, .inl (cI, 70, .inl v_this_step)), (a_this_value, .inl (cJ, 70, .inr (.inl v_this_value))), (a_this_waits, .inl (cI, 70, .inl v_this_waits)), (a_this_with, .inl (cI, 70, .inl v_this_with))] res.1 [(a_this, .inr (12, [.ref a_this_st, .ref a_this_images, .ref a_this_isKept, .long v_this_above, .long v_this_below, .int res.2.2.2.1, .ref a_this_step, .ref a_this_with, .int res.2.2.2.2.2.1, .ref a_this_waits, .ref a_this_value, .ref a_this_given, .ref a_this_net, .ref a_this_together, .ref a_this_most, .ref a_this_owes, .ref a_this_can, .ref a_this_row, .ref a_this_before, .ref a_this_to, .ref a_this_on, .ref a_this_load, .ref a_this_lead, .ref a_this_bestLead, .ref a_this_silver])), (a_this_given, .inl (cJ, 5, .inr (.inl res.2.1))), (a_this_st, .inl (cI, 1951, .inl v_this_st)), (a_this_step, .inl (cI, 70, .inl res.2.2.1)), (a_this_value, .inl (cJ, 70, .inr (.inl res.2.2.2.2.1))), (a_this_waits, .inl (cI, 70, .inl res.2.2.2.2.2.2.1)), (a_this_with, .inl (cI, 70, .inl res.2.2.2.2.2.2.2))] := by
  unfold F_X12_owed at h
  refine ii_metL (own := RX12) (lv0 := [(0, .ref a_this), (1, .int p0), (2, .int p1)]) (by decide) rfl rfl rfl (Nat.le_of_ble_eq_true rfl) (fun {p e s m args below meth c A Q} hQ => ?_)
  refine ii_aload_n 0 dX12_owed_0 rfl ?_
  refine ii_iconst dX12_owed_1 kc2 ?_
  refine ii_iload_n 1 dX12_owed_2 rfl ?_
  obtain ⟨c_1, hc_1, h⟩ := bnd h
  refine ii_callVi (As := [.int (2 : Int32), .int p0]) (ws' := [(a_this, .inr (12, [.ref a_this_st, .ref a_this_images, .ref a_this_isKept, .long v_this_above, .long v_this_below, .int v_this_steps, .ref a_this_step, .ref a_this_with, .int v_this_waiting, .ref a_this_waits, .ref a_this_value, .ref a_this_given, .ref a_this_net, .ref a_this_together, .ref a_this_most, .ref a_this_owes, .ref a_this_can, .ref a_this_row, .ref a_this_before, .ref a_this_to, .ref a_this_on, .ref a_this_load, .ref a_this_lead, .ref a_this_bestLead, .ref a_this_silver])), (a_this_given, .inl (cJ, 5, .inr (.inl v_this_given))), (a_this_st, .inl (cI, 1951, .inl v_this_st)), (a_this_step, .inl (cI, 70, .inl v_this_step)), (a_this_value, .inl (cJ, 70, .inr (.inl v_this_value))), (a_this_waits, .inl (cI, 70, .inl v_this_waits)), (a_this_with, .inl (cI, 70, .inl v_this_with))]) (st := []) (c_X12_is l D cI cJ cZ cH a_this a_this_before a_this_bestLead a_this_can a_this_given a_this_images a_this_isKept a_this_lead a_this_load a_this_most a_this_net a_this_on a_this_owes a_this_row a_this_silver a_this_st a_this_step a_this_to a_this_together a_this_value a_this_waits a_this_with v_this_above v_this_below v_this_st v_this_steps v_this_waiting (2 : Int32) p0 hc_1) gzX12_173 rfl rfl rfl eV_X12_is ⟨Nat.le_of_ble_eq_true rfl, Nat.le_of_ble_eq_true rfl⟩ rfl 0 rfl rfl [0, 2] rfl rfl rfl rfl rfl (Nat.le_of_ble_eq_true rfl) (Nat.le_refl _) (Nat.le_refl _) rfl dX12_owed_3 ?_
  refine ii_jn h (fun j_2 => [(a_this, .inr (12, [.ref a_this_st, .ref a_this_images, .ref a_this_isKept, .long v_this_above, .long v_this_below, .int j_2.2.2.2.1, .ref a_this_step, .ref a_this_with, .int j_2.2.2.2.2.2.1, .ref a_this_waits, .ref a_this_value, .ref a_this_given, .ref a_this_net, .ref a_this_together, .ref a_this_most, .ref a_this_owes, .ref a_this_can, .ref a_this_row, .ref a_this_before, .ref a_this_to, .ref a_this_on, .ref a_this_load, .ref a_this_lead, .ref a_this_bestLead, .ref a_this_silver])), (a_this_given, .inl (cJ, 5, .inr (.inl j_2.2.1))), (a_this_st, .inl (cI, 1951, .inl v_this_st)), (a_this_step, .inl (cI, 70, .inl j_2.2.2.1)), (a_this_value, .inl (cJ, 70, .inr (.inl j_2.2.2.2.2.1))), (a_this_waits, .inl (cI, 70, .inl j_2.2.2.2.2.2.2.1)), (a_this_with, .inl (cI, 70, .inl j_2.2.2.2.2.2.2.2))]) (fun j_2 => []) 28 (fun j_2 => [.long j_2.1]) (fun j_2 h => ?_) (fun j_2 h hjj_2 => ?_)
  · skip
    cases h
    exact hQ _ _ dX12_owed_28
  · skip
    refine ii_if_eq (tgt := 25) h dX12_owed_6 (by decide) (fun h => ?_) (fun h => ?_)
    · skip
      refine ii_ldc2 (v := -2) dX12_owed_25 kX12_200 ?_
      refine ii_lv [] rfl ?_
      cases h
      exact hjj_2
    · skip
      refine ii_iload_n 2 dX12_owed_9 rfl ?_
      obtain ⟨c_3, hc_3, h⟩ := bnd h
      refine ii_callSi (As := [.int p1]) (ws' := [(a_this, .inr (12, [.ref a_this_st, .ref a_this_images, .ref a_this_isKept, .long v_this_above, .long v_this_below, .int v_this_steps, .ref a_this_step, .ref a_this_with, .int v_this_waiting, .ref a_this_waits, .ref a_this_value, .ref a_this_given, .ref a_this_net, .ref a_this_together, .ref a_this_most, .ref a_this_owes, .ref a_this_can, .ref a_this_row, .ref a_this_before, .ref a_this_to, .ref a_this_on, .ref a_this_load, .ref a_this_lead, .ref a_this_bestLead, .ref a_this_silver])), (a_this_given, .inl (cJ, 5, .inr (.inl v_this_given))), (a_this_st, .inl (cI, 1951, .inl v_this_st)), (a_this_step, .inl (cI, 70, .inl v_this_step)), (a_this_value, .inl (cJ, 70, .inr (.inl v_this_value))), (a_this_waits, .inl (cI, 70, .inl v_this_waits)), (a_this_with, .inl (cI, 70, .inl v_this_with))]) (st := []) (c_X12_isSeason l D cI cJ cZ cH p1 hc_3) gzX12_153 rfl rfl rfl eS_X12_isSeason ⟨Nat.le_of_ble_eq_true rfl, Nat.le_of_ble_eq_true rfl⟩ rfl [] rfl rfl rfl rfl rfl (Nat.le_of_ble_eq_true rfl) (Nat.le_refl _) (Nat.le_refl _) rfl dX12_owed_10 ?_
      refine ii_if_eq (tgt := 25) h dX12_owed_13 (by decide) (fun h => ?_) (fun h => ?_)
      · skip
        refine ii_ldc2 (v := -2) dX12_owed_25 kX12_200 ?_
        refine ii_lv [] rfl ?_
        cases h
        exact hjj_2
      · skip
        refine ii_aload_n 0 dX12_owed_16 rfl ?_
        refine ii_iload_n 1 dX12_owed_17 rfl ?_
        refine ii_iload_n 2 dX12_owed_18 rfl ?_
        obtain ⟨c_4, hc_4, h⟩ := bnd h
        refine ii_callVl (As := [.int p0, .int p1]) (ws' := [(a_this, .inr (12, [.ref a_this_st, .ref a_this_images, .ref a_this_isKept, .long v_this_above, .long v_this_below, .int c_4.2.2.2.1, .ref a_this_step, .ref a_this_with, .int c_4.2.2.2.2.2.1, .ref a_this_waits, .ref a_this_value, .ref a_this_given, .ref a_this_net, .ref a_this_together, .ref a_this_most, .ref a_this_owes, .ref a_this_can, .ref a_this_row, .ref a_this_before, .ref a_this_to, .ref a_this_on, .ref a_this_load, .ref a_this_lead, .ref a_this_bestLead, .ref a_this_silver])), (a_this_given, .inl (cJ, 5, .inr (.inl c_4.2.1))), (a_this_st, .inl (cI, 1951, .inl v_this_st)), (a_this_step, .inl (cI, 70, .inl c_4.2.2.1)), (a_this_value, .inl (cJ, 70, .inr (.inl c_4.2.2.2.2.1))), (a_this_waits, .inl (cI, 70, .inl c_4.2.2.2.2.2.2.1)), (a_this_with, .inl (cI, 70, .inl c_4.2.2.2.2.2.2.2))]) (st := []) (c_X12_owedOf l D cI cJ cZ cH a_this a_this_before a_this_bestLead a_this_can a_this_given a_this_images a_this_isKept a_this_lead a_this_load a_this_most a_this_net a_this_on a_this_owes a_this_row a_this_silver a_this_st a_this_step a_this_to a_this_together a_this_value a_this_waits a_this_with v_this_above v_this_below v_this_given v_this_st v_this_step v_this_steps v_this_value v_this_waiting v_this_waits v_this_with p0 p1 hc_4) gzX12_196 rfl rfl rfl eV_X12_owedOf ⟨Nat.le_of_ble_eq_true rfl, Nat.le_of_ble_eq_true rfl⟩ rfl 0 rfl rfl [0, 1, 2, 3, 4, 5, 6] rfl rfl rfl rfl rfl (Nat.le_of_ble_eq_true rfl) (Nat.le_refl _) (Nat.le_refl _) rfl dX12_owed_19 ?_
        refine ii_goto (tgt := 28) dX12_owed_22 (by decide) ?_
        refine ii_lv [] rfl ?_
        cases h
        exact hjj_2
