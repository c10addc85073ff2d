theorem kb10 : (Int8.ofInt (10)).toInt32 = (10 : Int32) := by decide
theorem kb100 : (Int8.ofInt (100)).toInt32 = (100 : Int32) := by decide
theorem kb11 : (Int8.ofInt (11)).toInt32 = (11 : Int32) := by decide
theorem kb12 : (Int8.ofInt (12)).toInt32 = (12 : Int32) := by decide
theorem kb126 : (Int8.ofInt (126)).toInt32 = (126 : Int32) := by decide
theorem kb127 : (Int8.ofInt (127)).toInt32 = (127 : Int32) := by decide
theorem kb13 : (Int8.ofInt (13)).toInt32 = (13 : Int32) := by decide
theorem kb14 : (Int8.ofInt (14)).toInt32 = (14 : Int32) := by decide
theorem kb15 : (Int8.ofInt (15)).toInt32 = (15 : Int32) := by decide
theorem kb16 : (Int8.ofInt (16)).toInt32 = (16 : Int32) := by decide
theorem kb20 : (Int8.ofInt (20)).toInt32 = (20 : Int32) := by decide
theorem kb30 : (Int8.ofInt (30)).toInt32 = (30 : Int32) := by decide
theorem kb32 : (Int8.ofInt (32)).toInt32 = (32 : Int32) := by decide
theorem kb33 : (Int8.ofInt (33)).toInt32 = (33 : Int32) := by decide
theorem kb40 : (Int8.ofInt (40)).toInt32 = (40 : Int32) := by decide
theorem kb41 : (Int8.ofInt (41)).toInt32 = (41 : Int32) := by decide
theorem kb45 : (Int8.ofInt (45)).toInt32 = (45 : Int32) := by decide
theorem kb48 : (Int8.ofInt (48)).toInt32 = (48 : Int32) := by decide
theorem kb50 : (Int8.ofInt (50)).toInt32 = (50 : Int32) := by decide
theorem kb51 : (Int8.ofInt (51)).toInt32 = (51 : Int32) := by decide
theorem kb53 : (Int8.ofInt (53)).toInt32 = (53 : Int32) := by decide
theorem kb54 : (Int8.ofInt (54)).toInt32 = (54 : Int32) := by decide
theorem kb57 : (Int8.ofInt (57)).toInt32 = (57 : Int32) := by decide
theorem kb58 : (Int8.ofInt (58)).toInt32 = (58 : Int32) := by decide
theorem kb6 : (Int8.ofInt (6)).toInt32 = (6 : Int32) := by decide
theorem kb60 : (Int8.ofInt (60)).toInt32 = (60 : Int32) := by decide
theorem kb63 : (Int8.ofInt (63)).toInt32 = (63 : Int32) := by decide
theorem kb7 : (Int8.ofInt (7)).toInt32 = (7 : Int32) := by decide
theorem kb8 : (Int8.ofInt (8)).toInt32 = (8 : Int32) := by decide
theorem kb9 : (Int8.ofInt (9)).toInt32 = (9 : Int32) := by decide
theorem kb99 : (Int8.ofInt (99)).toInt32 = (99 : Int32) := by decide
theorem kbm10 : (Int8.ofInt (-10)).toInt32 = (-10 : Int32) := by decide
theorem kbm2 : (Int8.ofInt (-2)).toInt32 = (-2 : Int32) := by decide
theorem kbm3 : (Int8.ofInt (-3)).toInt32 = (-3 : Int32) := by decide
theorem kbm4 : (Int8.ofInt (-4)).toInt32 = (-4 : Int32) := by decide
theorem kbm63 : (Int8.ofInt (-63)).toInt32 = (-63 : Int32) := by decide
theorem kc0 : Int32.ofInt (0) = (0 : Int32) := by decide
theorem kc1 : Int32.ofInt (1) = (1 : Int32) := by decide
theorem kc2 : Int32.ofInt (2) = (2 : Int32) := by decide
theorem kc3 : Int32.ofInt (3) = (3 : Int32) := by decide
theorem kc4 : Int32.ofInt (4) = (4 : Int32) := by decide
theorem kc5 : Int32.ofInt (5) = (5 : Int32) := by decide
theorem kcm1 : Int32.ofInt (-1) = (-1 : Int32) := by decide
theorem kcm2 : Int32.ofInt (-2) = (-2 : Int32) := by decide
theorem kl0 : Int64.ofNat ((0 : Fin 2) : Nat) = (0 : Int64) := by decide
theorem kl1 : Int64.ofNat ((1 : Fin 2) : Nat) = (1 : Int64) := by decide
theorem ks1000 : (Int16.ofInt (1000)).toInt32 = (1000 : Int32) := by decide
theorem ks10000 : (Int16.ofInt (10000)).toInt32 = (10000 : Int32) := by decide
theorem ks1092 : (Int16.ofInt (1092)).toInt32 = (1092 : Int32) := by decide
theorem ks1372 : (Int16.ofInt (1372)).toInt32 = (1372 : Int32) := by decide
theorem ks1552 : (Int16.ofInt (1552)).toInt32 = (1552 : Int32) := by decide
theorem ks1591 : (Int16.ofInt (1591)).toInt32 = (1591 : Int32) := by decide
theorem ks1597 : (Int16.ofInt (1597)).toInt32 = (1597 : Int32) := by decide
theorem ks1633 : (Int16.ofInt (1633)).toInt32 = (1633 : Int32) := by decide
theorem ks1753 : (Int16.ofInt (1753)).toInt32 = (1753 : Int32) := by decide
theorem ks1903 : (Int16.ofInt (1903)).toInt32 = (1903 : Int32) := by decide
theorem ks1933 : (Int16.ofInt (1933)).toInt32 = (1933 : Int32) := by decide
theorem ks1951 : (Int16.ofInt (1951)).toInt32 = (1951 : Int32) := by decide
theorem ks200 : (Int16.ofInt (200)).toInt32 = (200 : Int32) := by decide
theorem ks241 : (Int16.ofInt (241)).toInt32 = (241 : Int32) := by decide
theorem ks244 : (Int16.ofInt (244)).toInt32 = (244 : Int32) := by decide
theorem ks9999 : (Int16.ofInt (9999)).toInt32 = (9999 : Int32) := by decide
theorem eJ_J6_bitCount_0f7a4 : yJ6_bitCount_0f7a4.cls ≠ "java/lang/invoke/MethodHandle" ∧ yJ6_bitCount_0f7a4.cls ≠ "java/lang/invoke/VarHandle" ∧ (parseMethodDescriptor yJ6_bitCount_0f7a4.desc).map (fun d => d.parameters.length) = some 1 := by decide +kernel
theorem eJ_J7_fill_53178 : yJ7_fill_53178.cls ≠ "java/lang/invoke/MethodHandle" ∧ yJ7_fill_53178.cls ≠ "java/lang/invoke/VarHandle" ∧ (parseMethodDescriptor yJ7_fill_53178.desc).map (fun d => d.parameters.length) = some 2 := by decide +kernel
theorem eJ_J7_fill_d0a16 : yJ7_fill_d0a16.cls ≠ "java/lang/invoke/MethodHandle" ∧ yJ7_fill_d0a16.cls ≠ "java/lang/invoke/VarHandle" ∧ (parseMethodDescriptor yJ7_fill_d0a16.desc).map (fun d => d.parameters.length) = some 2 := by decide +kernel
theorem eV_X0_howMany : yX0_howMany.cls = RX0 ∧ yX0_howMany.cls ≠ "java/lang/invoke/MethodHandle" ∧ yX0_howMany.cls ≠ "java/lang/invoke/VarHandle" ∧ (parseMethodDescriptor yX0_howMany.desc).map (fun d => d.parameters.length) = some 1 := by decide +kernel
theorem eV_X0_kin : yX0_kin.cls = RX0 ∧ yX0_kin.cls ≠ "java/lang/invoke/MethodHandle" ∧ yX0_kin.cls ≠ "java/lang/invoke/VarHandle" ∧ (parseMethodDescriptor yX0_kin.desc).map (fun d => d.parameters.length) = some 2 := by decide +kernel
theorem eV_X0_mixPeople : yX0_mixPeople.cls = RX0 ∧ yX0_mixPeople.cls ≠ "java/lang/invoke/MethodHandle" ∧ yX0_mixPeople.cls ≠ "java/lang/invoke/VarHandle" ∧ (parseMethodDescriptor yX0_mixPeople.desc).map (fun d => d.parameters.length) = some 1 := by decide +kernel
theorem eV_X0_mixTrade : yX0_mixTrade.cls = RX0 ∧ yX0_mixTrade.cls ≠ "java/lang/invoke/MethodHandle" ∧ yX0_mixTrade.cls ≠ "java/lang/invoke/VarHandle" ∧ (parseMethodDescriptor yX0_mixTrade.desc).map (fun d => d.parameters.length) = some 1 := by decide +kernel
theorem eV_X10_countAhead : yX10_countAhead.cls = RX10 ∧ yX10_countAhead.cls ≠ "java/lang/invoke/MethodHandle" ∧ yX10_countAhead.cls ≠ "java/lang/invoke/VarHandle" ∧ (parseMethodDescriptor yX10_countAhead.desc).map (fun d => d.parameters.length) = some 1 := by decide +kernel
theorem eV_X10_countBehind : yX10_countBehind.cls = RX10 ∧ yX10_countBehind.cls ≠ "java/lang/invoke/MethodHandle" ∧ yX10_countBehind.cls ≠ "java/lang/invoke/VarHandle" ∧ (parseMethodDescriptor yX10_countBehind.desc).map (fun d => d.parameters.length) = some 1 := by decide +kernel
theorem eV_X10_countOrders : yX10_countOrders.cls = RX10 ∧ yX10_countOrders.cls ≠ "java/lang/invoke/MethodHandle" ∧ yX10_countOrders.cls ≠ "java/lang/invoke/VarHandle" ∧ (parseMethodDescriptor yX10_countOrders.desc).map (fun d => d.parameters.length) = some 0 := by decide +kernel
theorem eV_X10_firstNext : yX10_firstNext.cls = RX10 ∧ yX10_firstNext.cls ≠ "java/lang/invoke/MethodHandle" ∧ yX10_firstNext.cls ≠ "java/lang/invoke/VarHandle" ∧ (parseMethodDescriptor yX10_firstNext.desc).map (fun d => d.parameters.length) = some 1 := by decide +kernel
theorem eV_X10_isNext : yX10_isNext.cls = RX10 ∧ yX10_isNext.cls ≠ "java/lang/invoke/MethodHandle" ∧ yX10_isNext.cls ≠ "java/lang/invoke/VarHandle" ∧ (parseMethodDescriptor yX10_isNext.desc).map (fun d => d.parameters.length) = some 2 := by decide +kernel
theorem eV_X10_know : yX10_know.cls = RX10 ∧ yX10_know.cls ≠ "java/lang/invoke/MethodHandle" ∧ yX10_know.cls ≠ "java/lang/invoke/VarHandle" ∧ (parseMethodDescriptor yX10_know.desc).map (fun d => d.parameters.length) = some 1 := by decide +kernel
theorem eV_X10_layFirstOrder : yX10_layFirstOrder.cls = RX10 ∧ yX10_layFirstOrder.cls ≠ "java/lang/invoke/MethodHandle" ∧ yX10_layFirstOrder.cls ≠ "java/lang/invoke/VarHandle" ∧ (parseMethodDescriptor yX10_layFirstOrder.desc).map (fun d => d.parameters.length) = some 0 := by decide +kernel
theorem eV_X10_nameAt : yX10_nameAt.cls = RX10 ∧ yX10_nameAt.cls ≠ "java/lang/invoke/MethodHandle" ∧ yX10_nameAt.cls ≠ "java/lang/invoke/VarHandle" ∧ (parseMethodDescriptor yX10_nameAt.desc).map (fun d => d.parameters.length) = some 1 := by decide +kernel
theorem eS_X11_greatestDivisor : yX11_greatestDivisor.cls = RX11 ∧ yX11_greatestDivisor.cls ≠ "java/lang/invoke/MethodHandle" ∧ yX11_greatestDivisor.cls ≠ "java/lang/invoke/VarHandle" ∧ (parseMethodDescriptor yX11_greatestDivisor.desc).map (fun d => d.parameters.length) = some 2 := by decide +kernel
theorem eV_X11_isNoDebt : yX11_isNoDebt.cls = RX11 ∧ yX11_isNoDebt.cls ≠ "java/lang/invoke/MethodHandle" ∧ yX11_isNoDebt.cls ≠ "java/lang/invoke/VarHandle" ∧ (parseMethodDescriptor yX11_isNoDebt.desc).map (fun d => d.parameters.length) = some 1 := by decide +kernel
theorem eV_X11_isNoLoad : yX11_isNoLoad.cls = RX11 ∧ yX11_isNoLoad.cls ≠ "java/lang/invoke/MethodHandle" ∧ yX11_isNoLoad.cls ≠ "java/lang/invoke/VarHandle" ∧ (parseMethodDescriptor yX11_isNoLoad.desc).map (fun d => d.parameters.length) = some 2 := by decide +kernel
theorem eV_X11_isNoMerchant : yX11_isNoMerchant.cls = RX11 ∧ yX11_isNoMerchant.cls ≠ "java/lang/invoke/MethodHandle" ∧ yX11_isNoMerchant.cls ≠ "java/lang/invoke/VarHandle" ∧ (parseMethodDescriptor yX11_isNoMerchant.desc).map (fun d => d.parameters.length) = some 1 := by decide +kernel
theorem eV_X11_isNoName : yX11_isNoName.cls = RX11 ∧ yX11_isNoName.cls ≠ "java/lang/invoke/MethodHandle" ∧ yX11_isNoName.cls ≠ "java/lang/invoke/VarHandle" ∧ (parseMethodDescriptor yX11_isNoName.desc).map (fun d => d.parameters.length) = some 1 := by decide +kernel
theorem eV_X11_isNoPurse : yX11_isNoPurse.cls = RX11 ∧ yX11_isNoPurse.cls ≠ "java/lang/invoke/MethodHandle" ∧ yX11_isNoPurse.cls ≠ "java/lang/invoke/VarHandle" ∧ (parseMethodDescriptor yX11_isNoPurse.desc).map (fun d => d.parameters.length) = some 1 := by decide +kernel
theorem eS_X11_isOut : yX11_isOut.cls = RX11 ∧ yX11_isOut.cls ≠ "java/lang/invoke/MethodHandle" ∧ yX11_isOut.cls ≠ "java/lang/invoke/VarHandle" ∧ (parseMethodDescriptor yX11_isOut.desc).map (fun d => d.parameters.length) = some 3 := by decide +kernel
theorem eS_X11_isOutOfSeasons : yX11_isOutOfSeasons.cls = RX11 ∧ yX11_isOutOfSeasons.cls ≠ "java/lang/invoke/MethodHandle" ∧ yX11_isOutOfSeasons.cls ≠ "java/lang/invoke/VarHandle" ∧ (parseMethodDescriptor yX11_isOutOfSeasons.desc).map (fun d => d.parameters.length) = some 1 := by decide +kernel
theorem eV_X11_setFraction : yX11_setFraction.cls = RX11 ∧ yX11_setFraction.cls ≠ "java/lang/invoke/MethodHandle" ∧ yX11_setFraction.cls ≠ "java/lang/invoke/VarHandle" ∧ (parseMethodDescriptor yX11_setFraction.desc).map (fun d => d.parameters.length) = some 2 := by decide +kernel
theorem eV_X12_balanceOf : yX12_balanceOf.cls = RX12 ∧ yX12_balanceOf.cls ≠ "java/lang/invoke/MethodHandle" ∧ yX12_balanceOf.cls ≠ "java/lang/invoke/VarHandle" ∧ (parseMethodDescriptor yX12_balanceOf.desc).map (fun d => d.parameters.length) = some 2 := by decide +kernel
theorem eV_X12_closes : yX12_closes.cls = RX12 ∧ yX12_closes.cls ≠ "java/lang/invoke/MethodHandle" ∧ yX12_closes.cls ≠ "java/lang/invoke/VarHandle" ∧ (parseMethodDescriptor yX12_closes.desc).map (fun d => d.parameters.length) = some 0 := by decide +kernel
theorem eV_X12_debtOf : yX12_debtOf.cls = RX12 ∧ yX12_debtOf.cls ≠ "java/lang/invoke/MethodHandle" ∧ yX12_debtOf.cls ≠ "java/lang/invoke/VarHandle" ∧ (parseMethodDescriptor yX12_debtOf.desc).map (fun d => d.parameters.length) = some 2 := by decide +kernel
theorem eS_X12_divisor : yX12_divisor.cls = RX12 ∧ yX12_divisor.cls ≠ "java/lang/invoke/MethodHandle" ∧ yX12_divisor.cls ≠ "java/lang/invoke/VarHandle" ∧ (parseMethodDescriptor yX12_divisor.desc).map (fun d => d.parameters.length) = some 2 := by decide +kernel
theorem eV_X12_emits : yX12_emits.cls = RX12 ∧ yX12_emits.cls ≠ "java/lang/invoke/MethodHandle" ∧ yX12_emits.cls ≠ "java/lang/invoke/VarHandle" ∧ (parseMethodDescriptor yX12_emits.desc).map (fun d => d.parameters.length) = some 2 := by decide +kernel
theorem eV_X12_findCan : yX12_findCan.cls = RX12 ∧ yX12_findCan.cls ≠ "java/lang/invoke/MethodHandle" ∧ yX12_findCan.cls ≠ "java/lang/invoke/VarHandle" ∧ (parseMethodDescriptor yX12_findCan.desc).map (fun d => d.parameters.length) = some 2 := by decide +kernel
theorem eV_X12_findLoads : yX12_findLoads.cls = RX12 ∧ yX12_findLoads.cls ≠ "java/lang/invoke/MethodHandle" ∧ yX12_findLoads.cls ≠ "java/lang/invoke/VarHandle" ∧ (parseMethodDescriptor yX12_findLoads.desc).map (fun d => d.parameters.length) = some 0 := by decide +kernel
theorem eV_X12_findMen : yX12_findMen.cls = RX12 ∧ yX12_findMen.cls ≠ "java/lang/invoke/MethodHandle" ∧ yX12_findMen.cls ≠ "java/lang/invoke/VarHandle" ∧ (parseMethodDescriptor yX12_findMen.desc).map (fun d => d.parameters.length) = some 0 := by decide +kernel
theorem eV_X12_findOrders : yX12_findOrders.cls = RX12 ∧ yX12_findOrders.cls ≠ "java/lang/invoke/MethodHandle" ∧ yX12_findOrders.cls ≠ "java/lang/invoke/VarHandle" ∧ (parseMethodDescriptor yX12_findOrders.desc).map (fun d => d.parameters.length) = some 1 := by decide +kernel
theorem eV_X12_findOwes : yX12_findOwes.cls = RX12 ∧ yX12_findOwes.cls ≠ "java/lang/invoke/MethodHandle" ∧ yX12_findOwes.cls ≠ "java/lang/invoke/VarHandle" ∧ (parseMethodDescriptor yX12_findOwes.desc).map (fun d => d.parameters.length) = some 1 := by decide +kernel
theorem eV_X12_findRing : yX12_findRing.cls = RX12 ∧ yX12_findRing.cls ≠ "java/lang/invoke/MethodHandle" ∧ yX12_findRing.cls ≠ "java/lang/invoke/VarHandle" ∧ (parseMethodDescriptor yX12_findRing.desc).map (fun d => d.parameters.length) = some 0 := by decide +kernel
theorem eV_X12_findSilver : yX12_findSilver.cls = RX12 ∧ yX12_findSilver.cls ≠ "java/lang/invoke/MethodHandle" ∧ yX12_findSilver.cls ≠ "java/lang/invoke/VarHandle" ∧ (parseMethodDescriptor yX12_findSilver.desc).map (fun d => d.parameters.length) = some 1 := by decide +kernel
theorem eV_X12_gives : yX12_gives.cls = RX12 ∧ yX12_gives.cls ≠ "java/lang/invoke/MethodHandle" ∧ yX12_gives.cls ≠ "java/lang/invoke/VarHandle" ∧ (parseMethodDescriptor yX12_gives.desc).map (fun d => d.parameters.length) = some 5 := by decide +kernel
theorem eV_X12_goesOn : yX12_goesOn.cls = RX12 ∧ yX12_goesOn.cls ≠ "java/lang/invoke/MethodHandle" ∧ yX12_goesOn.cls ≠ "java/lang/invoke/VarHandle" ∧ (parseMethodDescriptor yX12_goesOn.desc).map (fun d => d.parameters.length) = some 1 := by decide +kernel
theorem eS_X12_holds : yX12_holds.cls = RX12 ∧ yX12_holds.cls ≠ "java/lang/invoke/MethodHandle" ∧ yX12_holds.cls ≠ "java/lang/invoke/VarHandle" ∧ (parseMethodDescriptor yX12_holds.desc).map (fun d => d.parameters.length) = some 1 := by decide +kernel
theorem eV_X12_house : yX12_house.cls = RX12 ∧ yX12_house.cls ≠ "java/lang/invoke/MethodHandle" ∧ yX12_house.cls ≠ "java/lang/invoke/VarHandle" ∧ (parseMethodDescriptor yX12_house.desc).map (fun d => d.parameters.length) = some 1 := by decide +kernel
theorem eS_X12_in : yX12_in.cls = RX12 ∧ yX12_in.cls ≠ "java/lang/invoke/MethodHandle" ∧ yX12_in.cls ≠ "java/lang/invoke/VarHandle" ∧ (parseMethodDescriptor yX12_in.desc).map (fun d => d.parameters.length) = some 3 := by decide +kernel
theorem eV_X12_inForce : yX12_inForce.cls = RX12 ∧ yX12_inForce.cls ≠ "java/lang/invoke/MethodHandle" ∧ yX12_inForce.cls ≠ "java/lang/invoke/VarHandle" ∧ (parseMethodDescriptor yX12_inForce.desc).map (fun d => d.parameters.length) = some 2 := by decide +kernel
theorem eV_X12_is : yX12_is.cls = RX12 ∧ yX12_is.cls ≠ "java/lang/invoke/MethodHandle" ∧ yX12_is.cls ≠ "java/lang/invoke/VarHandle" ∧ (parseMethodDescriptor yX12_is.desc).map (fun d => d.parameters.length) = some 2 := by decide +kernel
theorem eS_X12_isKnown : yX12_isKnown.cls = RX12 ∧ yX12_isKnown.cls ≠ "java/lang/invoke/MethodHandle" ∧ yX12_isKnown.cls ≠ "java/lang/invoke/VarHandle" ∧ (parseMethodDescriptor yX12_isKnown.desc).map (fun d => d.parameters.length) = some 1 := by decide +kernel
theorem eV_X12_isName : yX12_isName.cls = RX12 ∧ yX12_isName.cls ≠ "java/lang/invoke/MethodHandle" ∧ yX12_isName.cls ≠ "java/lang/invoke/VarHandle" ∧ (parseMethodDescriptor yX12_isName.desc).map (fun d => d.parameters.length) = some 1 := by decide +kernel
theorem eS_X12_isSeason : yX12_isSeason.cls = RX12 ∧ yX12_isSeason.cls ≠ "java/lang/invoke/MethodHandle" ∧ yX12_isSeason.cls ≠ "java/lang/invoke/VarHandle" ∧ (parseMethodDescriptor yX12_isSeason.desc).map (fun d => d.parameters.length) = some 1 := by decide +kernel
theorem eS_X12_isText : yX12_isText.cls = RX12 ∧ yX12_isText.cls ≠ "java/lang/invoke/MethodHandle" ∧ yX12_isText.cls ≠ "java/lang/invoke/VarHandle" ∧ (parseMethodDescriptor yX12_isText.desc).map (fun d => d.parameters.length) = some 1 := by decide +kernel
theorem eS_X12_isWeight : yX12_isWeight.cls = RX12 ∧ yX12_isWeight.cls ≠ "java/lang/invoke/MethodHandle" ∧ yX12_isWeight.cls ≠ "java/lang/invoke/VarHandle" ∧ (parseMethodDescriptor yX12_isWeight.desc).map (fun d => d.parameters.length) = some 1 := by decide +kernel
theorem eV_X12_kin : yX12_kin.cls = RX12 ∧ yX12_kin.cls ≠ "java/lang/invoke/MethodHandle" ∧ yX12_kin.cls ≠ "java/lang/invoke/VarHandle" ∧ (parseMethodDescriptor yX12_kin.desc).map (fun d => d.parameters.length) = some 2 := by decide +kernel
theorem eV_X12_known : yX12_known.cls = RX12 ∧ yX12_known.cls ≠ "java/lang/invoke/MethodHandle" ∧ yX12_known.cls ≠ "java/lang/invoke/VarHandle" ∧ (parseMethodDescriptor yX12_known.desc).map (fun d => d.parameters.length) = some 2 := by decide +kernel
theorem eV_X12_mayBeOne : yX12_mayBeOne.cls = RX12 ∧ yX12_mayBeOne.cls ≠ "java/lang/invoke/MethodHandle" ∧ yX12_mayBeOne.cls ≠ "java/lang/invoke/VarHandle" ∧ (parseMethodDescriptor yX12_mayBeOne.desc).map (fun d => d.parameters.length) = some 2 := by decide +kernel
theorem eV_X12_mayCome : yX12_mayCome.cls = RX12 ∧ yX12_mayCome.cls ≠ "java/lang/invoke/MethodHandle" ∧ yX12_mayCome.cls ≠ "java/lang/invoke/VarHandle" ∧ (parseMethodDescriptor yX12_mayCome.desc).map (fun d => d.parameters.length) = some 2 := by decide +kernel
theorem eV_X12_mayFollow : yX12_mayFollow.cls = RX12 ∧ yX12_mayFollow.cls ≠ "java/lang/invoke/MethodHandle" ∧ yX12_mayFollow.cls ≠ "java/lang/invoke/VarHandle" ∧ (parseMethodDescriptor yX12_mayFollow.desc).map (fun d => d.parameters.length) = some 1 := by decide +kernel
theorem eV_X12_mixed : yX12_mixed.cls = RX12 ∧ yX12_mixed.cls ≠ "java/lang/invoke/MethodHandle" ∧ yX12_mixed.cls ≠ "java/lang/invoke/VarHandle" ∧ (parseMethodDescriptor yX12_mixed.desc).map (fun d => d.parameters.length) = some 3 := by decide +kernel
theorem eS_X12_nameOf : yX12_nameOf.cls = RX12 ∧ yX12_nameOf.cls ≠ "java/lang/invoke/MethodHandle" ∧ yX12_nameOf.cls ≠ "java/lang/invoke/VarHandle" ∧ (parseMethodDescriptor yX12_nameOf.desc).map (fun d => d.parameters.length) = some 1 := by decide +kernel
theorem eV_X12_one : yX12_one.cls = RX12 ∧ yX12_one.cls ≠ "java/lang/invoke/MethodHandle" ∧ yX12_one.cls ≠ "java/lang/invoke/VarHandle" ∧ (parseMethodDescriptor yX12_one.desc).map (fun d => d.parameters.length) = some 1 := by decide +kernel
theorem eV_X12_owedOf : yX12_owedOf.cls = RX12 ∧ yX12_owedOf.cls ≠ "java/lang/invoke/MethodHandle" ∧ yX12_owedOf.cls ≠ "java/lang/invoke/VarHandle" ∧ (parseMethodDescriptor yX12_owedOf.desc).map (fun d => d.parameters.length) = some 2 := by decide +kernel
theorem eV_X12_purseOf : yX12_purseOf.cls = RX12 ∧ yX12_purseOf.cls ≠ "java/lang/invoke/MethodHandle" ∧ yX12_purseOf.cls ≠ "java/lang/invoke/VarHandle" ∧ (parseMethodDescriptor yX12_purseOf.desc).map (fun d => d.parameters.length) = some 2 := by decide +kernel
theorem eV_X12_puts : yX12_puts.cls = RX12 ∧ yX12_puts.cls ≠ "java/lang/invoke/MethodHandle" ∧ yX12_puts.cls ≠ "java/lang/invoke/VarHandle" ∧ (parseMethodDescriptor yX12_puts.desc).map (fun d => d.parameters.length) = some 2 := by decide +kernel
theorem eV_X12_reads : yX12_reads.cls = RX12 ∧ yX12_reads.cls ≠ "java/lang/invoke/MethodHandle" ∧ yX12_reads.cls ≠ "java/lang/invoke/VarHandle" ∧ (parseMethodDescriptor yX12_reads.desc).map (fun d => d.parameters.length) = some 1 := by decide +kernel
theorem eV_X12_settles : yX12_settles.cls = RX12 ∧ yX12_settles.cls ≠ "java/lang/invoke/MethodHandle" ∧ yX12_settles.cls ≠ "java/lang/invoke/VarHandle" ∧ (parseMethodDescriptor yX12_settles.desc).map (fun d => d.parameters.length) = some 1 := by decide +kernel
theorem eV_X12_shares : yX12_shares.cls = RX12 ∧ yX12_shares.cls ≠ "java/lang/invoke/MethodHandle" ∧ yX12_shares.cls ≠ "java/lang/invoke/VarHandle" ∧ (parseMethodDescriptor yX12_shares.desc).map (fun d => d.parameters.length) = some 1 := by decide +kernel
theorem eS_X12_signOf : yX12_signOf.cls = RX12 ∧ yX12_signOf.cls ≠ "java/lang/invoke/MethodHandle" ∧ yX12_signOf.cls ≠ "java/lang/invoke/VarHandle" ∧ (parseMethodDescriptor yX12_signOf.desc).map (fun d => d.parameters.length) = some 1 := by decide +kernel
theorem eS_X12_sizeOf : yX12_sizeOf.cls = RX12 ∧ yX12_sizeOf.cls ≠ "java/lang/invoke/MethodHandle" ∧ yX12_sizeOf.cls ≠ "java/lang/invoke/VarHandle" ∧ (parseMethodDescriptor yX12_sizeOf.desc).map (fun d => d.parameters.length) = some 1 := by decide +kernel
theorem eV_X12_tellsFraction : yX12_tellsFraction.cls = RX12 ∧ yX12_tellsFraction.cls ≠ "java/lang/invoke/MethodHandle" ∧ yX12_tellsFraction.cls ≠ "java/lang/invoke/VarHandle" ∧ (parseMethodDescriptor yX12_tellsFraction.desc).map (fun d => d.parameters.length) = some 2 := by decide +kernel
theorem eV_X12_tellsOf : yX12_tellsOf.cls = RX12 ∧ yX12_tellsOf.cls ≠ "java/lang/invoke/MethodHandle" ∧ yX12_tellsOf.cls ≠ "java/lang/invoke/VarHandle" ∧ (parseMethodDescriptor yX12_tellsOf.desc).map (fun d => d.parameters.length) = some 0 := by decide +kernel
theorem eV_X12_told : yX12_told.cls = RX12 ∧ yX12_told.cls ≠ "java/lang/invoke/MethodHandle" ∧ yX12_told.cls ≠ "java/lang/invoke/VarHandle" ∧ (parseMethodDescriptor yX12_told.desc).map (fun d => d.parameters.length) = some 7 := by decide +kernel
theorem eV_X12_town : yX12_town.cls = RX12 ∧ yX12_town.cls ≠ "java/lang/invoke/MethodHandle" ∧ yX12_town.cls ≠ "java/lang/invoke/VarHandle" ∧ (parseMethodDescriptor yX12_town.desc).map (fun d => d.parameters.length) = some 1 := by decide +kernel
theorem eS_X12_twoOf : yX12_twoOf.cls = RX12 ∧ yX12_twoOf.cls ≠ "java/lang/invoke/MethodHandle" ∧ yX12_twoOf.cls ≠ "java/lang/invoke/VarHandle" ∧ (parseMethodDescriptor yX12_twoOf.desc).map (fun d => d.parameters.length) = some 3 := by decide +kernel
theorem eV_X12_waitsWith : yX12_waitsWith.cls = RX12 ∧ yX12_waitsWith.cls ≠ "java/lang/invoke/MethodHandle" ∧ yX12_waitsWith.cls ≠ "java/lang/invoke/VarHandle" ∧ (parseMethodDescriptor yX12_waitsWith.desc).map (fun d => d.parameters.length) = some 1 := by decide +kernel
theorem eV_X12_wideOf : yX12_wideOf.cls = RX12 ∧ yX12_wideOf.cls ≠ "java/lang/invoke/MethodHandle" ∧ yX12_wideOf.cls ≠ "java/lang/invoke/VarHandle" ∧ (parseMethodDescriptor yX12_wideOf.desc).map (fun d => d.parameters.length) = some 3 := by decide +kernel
theorem eV_X1_inForce : yX1_inForce.cls = RX1 ∧ yX1_inForce.cls ≠ "java/lang/invoke/MethodHandle" ∧ yX1_inForce.cls ≠ "java/lang/invoke/VarHandle" ∧ (parseMethodDescriptor yX1_inForce.desc).map (fun d => d.parameters.length) = some 2 := by decide +kernel
theorem eV_X1_inscribe : yX1_inscribe.cls = RX1 ∧ yX1_inscribe.cls ≠ "java/lang/invoke/MethodHandle" ∧ yX1_inscribe.cls ≠ "java/lang/invoke/VarHandle" ∧ (parseMethodDescriptor yX1_inscribe.desc).map (fun d => d.parameters.length) = some 3 := by decide +kernel
theorem eS_X1_joined : yX1_joined.cls = RX1 ∧ yX1_joined.cls ≠ "java/lang/invoke/MethodHandle" ∧ yX1_joined.cls ≠ "java/lang/invoke/VarHandle" ∧ (parseMethodDescriptor yX1_joined.desc).map (fun d => d.parameters.length) = some 3 := by decide +kernel
theorem eV_X1_meet : yX1_meet.cls = RX1 ∧ yX1_meet.cls ≠ "java/lang/invoke/MethodHandle" ∧ yX1_meet.cls ≠ "java/lang/invoke/VarHandle" ∧ (parseMethodDescriptor yX1_meet.desc).map (fun d => d.parameters.length) = some 5 := by decide +kernel
theorem eV_X1_pop : yX1_pop.cls = RX1 ∧ yX1_pop.cls ≠ "java/lang/invoke/MethodHandle" ∧ yX1_pop.cls ≠ "java/lang/invoke/VarHandle" ∧ (parseMethodDescriptor yX1_pop.desc).map (fun d => d.parameters.length) = some 0 := by decide +kernel
theorem eV_X1_push : yX1_push.cls = RX1 ∧ yX1_push.cls ≠ "java/lang/invoke/MethodHandle" ∧ yX1_push.cls ≠ "java/lang/invoke/VarHandle" ∧ (parseMethodDescriptor yX1_push.desc).map (fun d => d.parameters.length) = some 1 := by decide +kernel
theorem eV_X1_run : yX1_run.cls = RX1 ∧ yX1_run.cls ≠ "java/lang/invoke/MethodHandle" ∧ yX1_run.cls ≠ "java/lang/invoke/VarHandle" ∧ (parseMethodDescriptor yX1_run.desc).map (fun d => d.parameters.length) = some 3 := by decide +kernel
theorem eV_X1_said : yX1_said.cls = RX1 ∧ yX1_said.cls ≠ "java/lang/invoke/MethodHandle" ∧ yX1_said.cls ≠ "java/lang/invoke/VarHandle" ∧ (parseMethodDescriptor yX1_said.desc).map (fun d => d.parameters.length) = some 6 := by decide +kernel
theorem eV_X1_work : yX1_work.cls = RX1 ∧ yX1_work.cls ≠ "java/lang/invoke/MethodHandle" ∧ yX1_work.cls ≠ "java/lang/invoke/VarHandle" ∧ (parseMethodDescriptor yX1_work.desc).map (fun d => d.parameters.length) = some 1 := by decide +kernel
theorem eV_X2_byShares : yX2_byShares.cls = RX2 ∧ yX2_byShares.cls ≠ "java/lang/invoke/MethodHandle" ∧ yX2_byShares.cls ≠ "java/lang/invoke/VarHandle" ∧ (parseMethodDescriptor yX2_byShares.desc).map (fun d => d.parameters.length) = some 4 := by decide +kernel
theorem eV_X2_gather : yX2_gather.cls = RX2 ∧ yX2_gather.cls ≠ "java/lang/invoke/MethodHandle" ∧ yX2_gather.cls ≠ "java/lang/invoke/VarHandle" ∧ (parseMethodDescriptor yX2_gather.desc).map (fun d => d.parameters.length) = some 1 := by decide +kernel
theorem eV_X2_left : yX2_left.cls = RX2 ∧ yX2_left.cls ≠ "java/lang/invoke/MethodHandle" ∧ yX2_left.cls ≠ "java/lang/invoke/VarHandle" ∧ (parseMethodDescriptor yX2_left.desc).map (fun d => d.parameters.length) = some 2 := by decide +kernel
theorem eV_X2_partOf : yX2_partOf.cls = RX2 ∧ yX2_partOf.cls ≠ "java/lang/invoke/MethodHandle" ∧ yX2_partOf.cls ≠ "java/lang/invoke/VarHandle" ∧ (parseMethodDescriptor yX2_partOf.desc).map (fun d => d.parameters.length) = some 3 := by decide +kernel
theorem eV_X2_sharesOfAll : yX2_sharesOfAll.cls = RX2 ∧ yX2_sharesOfAll.cls ≠ "java/lang/invoke/MethodHandle" ∧ yX2_sharesOfAll.cls ≠ "java/lang/invoke/VarHandle" ∧ (parseMethodDescriptor yX2_sharesOfAll.desc).map (fun d => d.parameters.length) = some 1 := by decide +kernel
theorem eV_X2_sumLent : yX2_sumLent.cls = RX2 ∧ yX2_sumLent.cls ≠ "java/lang/invoke/MethodHandle" ∧ yX2_sumLent.cls ≠ "java/lang/invoke/VarHandle" ∧ (parseMethodDescriptor yX2_sumLent.desc).map (fun d => d.parameters.length) = some 2 := by decide +kernel
theorem eV_X2_takenBy : yX2_takenBy.cls = RX2 ∧ yX2_takenBy.cls ≠ "java/lang/invoke/MethodHandle" ∧ yX2_takenBy.cls ≠ "java/lang/invoke/VarHandle" ∧ (parseMethodDescriptor yX2_takenBy.desc).map (fun d => d.parameters.length) = some 3 := by decide +kernel
theorem eV_X3_agree : yX3_agree.cls = RX3 ∧ yX3_agree.cls ≠ "java/lang/invoke/MethodHandle" ∧ yX3_agree.cls ≠ "java/lang/invoke/VarHandle" ∧ (parseMethodDescriptor yX3_agree.desc).map (fun d => d.parameters.length) = some 3 := by decide +kernel
theorem eV_X3_compare : yX3_compare.cls = RX3 ∧ yX3_compare.cls ≠ "java/lang/invoke/MethodHandle" ∧ yX3_compare.cls ≠ "java/lang/invoke/VarHandle" ∧ (parseMethodDescriptor yX3_compare.desc).map (fun d => d.parameters.length) = some 0 := by decide +kernel
theorem eV_X3_isOneMan : yX3_isOneMan.cls = RX3 ∧ yX3_isOneMan.cls ≠ "java/lang/invoke/MethodHandle" ∧ yX3_isOneMan.cls ≠ "java/lang/invoke/VarHandle" ∧ (parseMethodDescriptor yX3_isOneMan.desc).map (fun d => d.parameters.length) = some 2 := by decide +kernel
theorem eV_X3_joins : yX3_joins.cls = RX3 ∧ yX3_joins.cls ≠ "java/lang/invoke/MethodHandle" ∧ yX3_joins.cls ≠ "java/lang/invoke/VarHandle" ∧ (parseMethodDescriptor yX3_joins.desc).map (fun d => d.parameters.length) = some 3 := by decide +kernel
theorem eV_X3_leastOf : yX3_leastOf.cls = RX3 ∧ yX3_leastOf.cls ≠ "java/lang/invoke/MethodHandle" ∧ yX3_leastOf.cls ≠ "java/lang/invoke/VarHandle" ∧ (parseMethodDescriptor yX3_leastOf.desc).map (fun d => d.parameters.length) = some 1 := by decide +kernel
theorem eV_X3_mayJoin : yX3_mayJoin.cls = RX3 ∧ yX3_mayJoin.cls ≠ "java/lang/invoke/MethodHandle" ∧ yX3_mayJoin.cls ≠ "java/lang/invoke/VarHandle" ∧ (parseMethodDescriptor yX3_mayJoin.desc).map (fun d => d.parameters.length) = some 2 := by decide +kernel
theorem eV_X3_settle : yX3_settle.cls = RX3 ∧ yX3_settle.cls ≠ "java/lang/invoke/MethodHandle" ∧ yX3_settle.cls ≠ "java/lang/invoke/VarHandle" ∧ (parseMethodDescriptor yX3_settle.desc).map (fun d => d.parameters.length) = some 2 := by decide +kernel
theorem eV_X3_tellApart : yX3_tellApart.cls = RX3 ∧ yX3_tellApart.cls ≠ "java/lang/invoke/MethodHandle" ∧ yX3_tellApart.cls ≠ "java/lang/invoke/VarHandle" ∧ (parseMethodDescriptor yX3_tellApart.desc).map (fun d => d.parameters.length) = some 0 := by decide +kernel
theorem eV_X4_book : yX4_book.cls = RX4 ∧ yX4_book.cls ≠ "java/lang/invoke/MethodHandle" ∧ yX4_book.cls ≠ "java/lang/invoke/VarHandle" ∧ (parseMethodDescriptor yX4_book.desc).map (fun d => d.parameters.length) = some 2 := by decide +kernel
theorem eV_X4_fewestPayments : yX4_fewestPayments.cls = RX4 ∧ yX4_fewestPayments.cls ≠ "java/lang/invoke/MethodHandle" ∧ yX4_fewestPayments.cls ≠ "java/lang/invoke/VarHandle" ∧ (parseMethodDescriptor yX4_fewestPayments.desc).map (fun d => d.parameters.length) = some 0 := by decide +kernel
theorem eV_X4_firstStep : yX4_firstStep.cls = RX4 ∧ yX4_firstStep.cls ≠ "java/lang/invoke/MethodHandle" ∧ yX4_firstStep.cls ≠ "java/lang/invoke/VarHandle" ∧ (parseMethodDescriptor yX4_firstStep.desc).map (fun d => d.parameters.length) = some 3 := by decide +kernel
theorem eV_X4_follow : yX4_follow.cls = RX4 ∧ yX4_follow.cls ≠ "java/lang/invoke/MethodHandle" ∧ yX4_follow.cls ≠ "java/lang/invoke/VarHandle" ∧ (parseMethodDescriptor yX4_follow.desc).map (fun d => d.parameters.length) = some 2 := by decide +kernel
theorem eV_X4_gatherUneven : yX4_gatherUneven.cls = RX4 ∧ yX4_gatherUneven.cls ≠ "java/lang/invoke/MethodHandle" ∧ yX4_gatherUneven.cls ≠ "java/lang/invoke/VarHandle" ∧ (parseMethodDescriptor yX4_gatherUneven.desc).map (fun d => d.parameters.length) = some 0 := by decide +kernel
theorem eV_X4_inRing : yX4_inRing.cls = RX4 ∧ yX4_inRing.cls ≠ "java/lang/invoke/MethodHandle" ∧ yX4_inRing.cls ≠ "java/lang/invoke/VarHandle" ∧ (parseMethodDescriptor yX4_inRing.desc).map (fun d => d.parameters.length) = some 1 := by decide +kernel
theorem eV_X4_isNear : yX4_isNear.cls = RX4 ∧ yX4_isNear.cls ≠ "java/lang/invoke/MethodHandle" ∧ yX4_isNear.cls ≠ "java/lang/invoke/VarHandle" ∧ (parseMethodDescriptor yX4_isNear.desc).map (fun d => d.parameters.length) = some 3 := by decide +kernel
theorem eV_X4_isOwing : yX4_isOwing.cls = RX4 ∧ yX4_isOwing.cls ≠ "java/lang/invoke/MethodHandle" ∧ yX4_isOwing.cls ≠ "java/lang/invoke/VarHandle" ∧ (parseMethodDescriptor yX4_isOwing.desc).map (fun d => d.parameters.length) = some 2 := by decide +kernel
theorem eV_X4_layRing : yX4_layRing.cls = RX4 ∧ yX4_layRing.cls ≠ "java/lang/invoke/MethodHandle" ∧ yX4_layRing.cls ≠ "java/lang/invoke/VarHandle" ∧ (parseMethodDescriptor yX4_layRing.desc).map (fun d => d.parameters.length) = some 0 := by decide +kernel
theorem eV_X4_lengthFrom : yX4_lengthFrom.cls = RX4 ∧ yX4_lengthFrom.cls ≠ "java/lang/invoke/MethodHandle" ∧ yX4_lengthFrom.cls ≠ "java/lang/invoke/VarHandle" ∧ (parseMethodDescriptor yX4_lengthFrom.desc).map (fun d => d.parameters.length) = some 1 := by decide +kernel
theorem eV_X4_of : yX4_of.cls = RX4 ∧ yX4_of.cls ≠ "java/lang/invoke/MethodHandle" ∧ yX4_of.cls ≠ "java/lang/invoke/VarHandle" ∧ (parseMethodDescriptor yX4_of.desc).map (fun d => d.parameters.length) = some 1 := by decide +kernel
theorem eS_X4_pairOf : yX4_pairOf.cls = RX4 ∧ yX4_pairOf.cls ≠ "java/lang/invoke/MethodHandle" ∧ yX4_pairOf.cls ≠ "java/lang/invoke/VarHandle" ∧ (parseMethodDescriptor yX4_pairOf.desc).map (fun d => d.parameters.length) = some 2 := by decide +kernel
theorem eV_X4_weigh : yX4_weigh.cls = RX4 ∧ yX4_weigh.cls ≠ "java/lang/invoke/MethodHandle" ∧ yX4_weigh.cls ≠ "java/lang/invoke/VarHandle" ∧ (parseMethodDescriptor yX4_weigh.desc).map (fun d => d.parameters.length) = some 1 := by decide +kernel
theorem eV_X4_weighSet : yX4_weighSet.cls = RX4 ∧ yX4_weighSet.cls ≠ "java/lang/invoke/MethodHandle" ∧ yX4_weighSet.cls ≠ "java/lang/invoke/VarHandle" ∧ (parseMethodDescriptor yX4_weighSet.desc).map (fun d => d.parameters.length) = some 2 := by decide +kernel
theorem eV_X5_choose : yX5_choose.cls = RX5 ∧ yX5_choose.cls ≠ "java/lang/invoke/MethodHandle" ∧ yX5_choose.cls ≠ "java/lang/invoke/VarHandle" ∧ (parseMethodDescriptor yX5_choose.desc).map (fun d => d.parameters.length) = some 0 := by decide +kernel
theorem eV_X5_setSilver : yX5_setSilver.cls = RX5 ∧ yX5_setSilver.cls ≠ "java/lang/invoke/MethodHandle" ∧ yX5_setSilver.cls ≠ "java/lang/invoke/VarHandle" ∧ (parseMethodDescriptor yX5_setSilver.desc).map (fun d => d.parameters.length) = some 3 := by decide +kernel
theorem eV_X5_silverOf : yX5_silverOf.cls = RX5 ∧ yX5_silverOf.cls ≠ "java/lang/invoke/MethodHandle" ∧ yX5_silverOf.cls ≠ "java/lang/invoke/VarHandle" ∧ (parseMethodDescriptor yX5_silverOf.desc).map (fun d => d.parameters.length) = some 3 := by decide +kernel
theorem eV_X5_value : yX5_value.cls = RX5 ∧ yX5_value.cls ≠ "java/lang/invoke/MethodHandle" ∧ yX5_value.cls ≠ "java/lang/invoke/VarHandle" ∧ (parseMethodDescriptor yX5_value.desc).map (fun d => d.parameters.length) = some 1 := by decide +kernel
theorem eV_X5_wayOf : yX5_wayOf.cls = RX5 ∧ yX5_wayOf.cls ≠ "java/lang/invoke/MethodHandle" ∧ yX5_wayOf.cls ≠ "java/lang/invoke/VarHandle" ∧ (parseMethodDescriptor yX5_wayOf.desc).map (fun d => d.parameters.length) = some 2 := by decide +kernel
theorem eV_X5_worstOf : yX5_worstOf.cls = RX5 ∧ yX5_worstOf.cls ≠ "java/lang/invoke/MethodHandle" ∧ yX5_worstOf.cls ≠ "java/lang/invoke/VarHandle" ∧ (parseMethodDescriptor yX5_worstOf.desc).map (fun d => d.parameters.length) = some 1 := by decide +kernel
theorem eV_X6_carriedBy : yX6_carriedBy.cls = RX6 ∧ yX6_carriedBy.cls ≠ "java/lang/invoke/MethodHandle" ∧ yX6_carriedBy.cls ≠ "java/lang/invoke/VarHandle" ∧ (parseMethodDescriptor yX6_carriedBy.desc).map (fun d => d.parameters.length) = some 1 := by decide +kernel
theorem eV_X6_fill : yX6_fill.cls = RX6 ∧ yX6_fill.cls ≠ "java/lang/invoke/MethodHandle" ∧ yX6_fill.cls ≠ "java/lang/invoke/VarHandle" ∧ (parseMethodDescriptor yX6_fill.desc).map (fun d => d.parameters.length) = some 0 := by decide +kernel
theorem eV_X6_knownTo : yX6_knownTo.cls = RX6 ∧ yX6_knownTo.cls ≠ "java/lang/invoke/MethodHandle" ∧ yX6_knownTo.cls ≠ "java/lang/invoke/VarHandle" ∧ (parseMethodDescriptor yX6_knownTo.desc).map (fun d => d.parameters.length) = some 2 := by decide +kernel
theorem eV_X7_closeOne : yX7_closeOne.cls = RX7 ∧ yX7_closeOne.cls ≠ "java/lang/invoke/MethodHandle" ∧ yX7_closeOne.cls ≠ "java/lang/invoke/VarHandle" ∧ (parseMethodDescriptor yX7_closeOne.desc).map (fun d => d.parameters.length) = some 1 := by decide +kernel
theorem eV_X7_end : yX7_end.cls = RX7 ∧ yX7_end.cls ≠ "java/lang/invoke/MethodHandle" ∧ yX7_end.cls ≠ "java/lang/invoke/VarHandle" ∧ (parseMethodDescriptor yX7_end.desc).map (fun d => d.parameters.length) = some 1 := by decide +kernel
theorem eV_X7_endNumber : yX7_endNumber.cls = RX7 ∧ yX7_endNumber.cls ≠ "java/lang/invoke/MethodHandle" ∧ yX7_endNumber.cls ≠ "java/lang/invoke/VarHandle" ∧ (parseMethodDescriptor yX7_endNumber.desc).map (fun d => d.parameters.length) = some 0 := by decide +kernel
theorem eV_X7_join : yX7_join.cls = RX7 ∧ yX7_join.cls ≠ "java/lang/invoke/MethodHandle" ∧ yX7_join.cls ≠ "java/lang/invoke/VarHandle" ∧ (parseMethodDescriptor yX7_join.desc).map (fun d => d.parameters.length) = some 2 := by decide +kernel
theorem eV_X7_openOne : yX7_openOne.cls = RX7 ∧ yX7_openOne.cls ≠ "java/lang/invoke/MethodHandle" ∧ yX7_openOne.cls ≠ "java/lang/invoke/VarHandle" ∧ (parseMethodDescriptor yX7_openOne.desc).map (fun d => d.parameters.length) = some 1 := by decide +kernel
theorem eV_X7_push : yX7_push.cls = RX7 ∧ yX7_push.cls ≠ "java/lang/invoke/MethodHandle" ∧ yX7_push.cls ≠ "java/lang/invoke/VarHandle" ∧ (parseMethodDescriptor yX7_push.desc).map (fun d => d.parameters.length) = some 1 := by decide +kernel
theorem eV_X7_put : yX7_put.cls = RX7 ∧ yX7_put.cls ≠ "java/lang/invoke/MethodHandle" ∧ yX7_put.cls ≠ "java/lang/invoke/VarHandle" ∧ (parseMethodDescriptor yX7_put.desc).map (fun d => d.parameters.length) = some 1 := by decide +kernel
theorem eS_X7_rank : yX7_rank.cls = RX7 ∧ yX7_rank.cls ≠ "java/lang/invoke/MethodHandle" ∧ yX7_rank.cls ≠ "java/lang/invoke/VarHandle" ∧ (parseMethodDescriptor yX7_rank.desc).map (fun d => d.parameters.length) = some 1 := by decide +kernel
theorem eV_X7_read : yX7_read.cls = RX7 ∧ yX7_read.cls ≠ "java/lang/invoke/MethodHandle" ∧ yX7_read.cls ≠ "java/lang/invoke/VarHandle" ∧ (parseMethodDescriptor yX7_read.desc).map (fun d => d.parameters.length) = some 2 := by decide +kernel
theorem eV_X7_release : yX7_release.cls = RX7 ∧ yX7_release.cls ≠ "java/lang/invoke/MethodHandle" ∧ yX7_release.cls ≠ "java/lang/invoke/VarHandle" ∧ (parseMethodDescriptor yX7_release.desc).map (fun d => d.parameters.length) = some 1 := by decide +kernel
theorem eV_X7_take : yX7_take.cls = RX7 ∧ yX7_take.cls ≠ "java/lang/invoke/MethodHandle" ∧ yX7_take.cls ≠ "java/lang/invoke/VarHandle" ∧ (parseMethodDescriptor yX7_take.desc).map (fun d => d.parameters.length) = some 2 := by decide +kernel
theorem eV_X7_takeDigit : yX7_takeDigit.cls = RX7 ∧ yX7_takeDigit.cls ≠ "java/lang/invoke/MethodHandle" ∧ yX7_takeDigit.cls ≠ "java/lang/invoke/VarHandle" ∧ (parseMethodDescriptor yX7_takeDigit.desc).map (fun d => d.parameters.length) = some 2 := by decide +kernel
theorem eV_X7_takeJoint : yX7_takeJoint.cls = RX7 ∧ yX7_takeJoint.cls ≠ "java/lang/invoke/MethodHandle" ∧ yX7_takeJoint.cls ≠ "java/lang/invoke/VarHandle" ∧ (parseMethodDescriptor yX7_takeJoint.desc).map (fun d => d.parameters.length) = some 2 := by decide +kernel
theorem eV_X7_takeUnit : yX7_takeUnit.cls = RX7 ∧ yX7_takeUnit.cls ≠ "java/lang/invoke/MethodHandle" ∧ yX7_takeUnit.cls ≠ "java/lang/invoke/VarHandle" ∧ (parseMethodDescriptor yX7_takeUnit.desc).map (fun d => d.parameters.length) = some 2 := by decide +kernel
theorem eV_X7_top : yX7_top.cls = RX7 ∧ yX7_top.cls ≠ "java/lang/invoke/MethodHandle" ∧ yX7_top.cls ≠ "java/lang/invoke/VarHandle" ∧ (parseMethodDescriptor yX7_top.desc).map (fun d => d.parameters.length) = some 0 := by decide +kernel
theorem eV_X7_turn : yX7_turn.cls = RX7 ∧ yX7_turn.cls ≠ "java/lang/invoke/MethodHandle" ∧ yX7_turn.cls ≠ "java/lang/invoke/VarHandle" ∧ (parseMethodDescriptor yX7_turn.desc).map (fun d => d.parameters.length) = some 1 := by decide +kernel
theorem eV_X8_add : yX8_add.cls = RX8 ∧ yX8_add.cls ≠ "java/lang/invoke/MethodHandle" ∧ yX8_add.cls ≠ "java/lang/invoke/VarHandle" ∧ (parseMethodDescriptor yX8_add.desc).map (fun d => d.parameters.length) = some 5 := by decide +kernel
theorem eV_X8_become : yX8_become.cls = RX8 ∧ yX8_become.cls ≠ "java/lang/invoke/MethodHandle" ∧ yX8_become.cls ≠ "java/lang/invoke/VarHandle" ∧ (parseMethodDescriptor yX8_become.desc).map (fun d => d.parameters.length) = some 1 := by decide +kernel
theorem eV_X8_clear : yX8_clear.cls = RX8 ∧ yX8_clear.cls ≠ "java/lang/invoke/MethodHandle" ∧ yX8_clear.cls ≠ "java/lang/invoke/VarHandle" ∧ (parseMethodDescriptor yX8_clear.desc).map (fun d => d.parameters.length) = some 0 := by decide +kernel
theorem eV_X8_get : yX8_get.cls = RX8 ∧ yX8_get.cls ≠ "java/lang/invoke/MethodHandle" ∧ yX8_get.cls ≠ "java/lang/invoke/VarHandle" ∧ (parseMethodDescriptor yX8_get.desc).map (fun d => d.parameters.length) = some 2 := by decide +kernel
theorem eV_X8_isFull : yX8_isFull.cls = RX8 ∧ yX8_isFull.cls ≠ "java/lang/invoke/MethodHandle" ∧ yX8_isFull.cls ≠ "java/lang/invoke/VarHandle" ∧ (parseMethodDescriptor yX8_isFull.desc).map (fun d => d.parameters.length) = some 0 := by decide +kernel
theorem eV_X8_mixAll : yX8_mixAll.cls = RX8 ∧ yX8_mixAll.cls ≠ "java/lang/invoke/MethodHandle" ∧ yX8_mixAll.cls ≠ "java/lang/invoke/VarHandle" ∧ (parseMethodDescriptor yX8_mixAll.desc).map (fun d => d.parameters.length) = some 2 := by decide +kernel
theorem eV_X8_mixRow : yX8_mixRow.cls = RX8 ∧ yX8_mixRow.cls ≠ "java/lang/invoke/MethodHandle" ∧ yX8_mixRow.cls ≠ "java/lang/invoke/VarHandle" ∧ (parseMethodDescriptor yX8_mixRow.desc).map (fun d => d.parameters.length) = some 3 := by decide +kernel
theorem eV_X8_mixTexts : yX8_mixTexts.cls = RX8 ∧ yX8_mixTexts.cls ≠ "java/lang/invoke/MethodHandle" ∧ yX8_mixTexts.cls ≠ "java/lang/invoke/VarHandle" ∧ (parseMethodDescriptor yX8_mixTexts.desc).map (fun d => d.parameters.length) = some 2 := by decide +kernel
theorem eV_X8_placeOf : yX8_placeOf.cls = RX8 ∧ yX8_placeOf.cls ≠ "java/lang/invoke/MethodHandle" ∧ yX8_placeOf.cls ≠ "java/lang/invoke/VarHandle" ∧ (parseMethodDescriptor yX8_placeOf.desc).map (fun d => d.parameters.length) = some 2 := by decide +kernel
theorem eV_X8_set : yX8_set.cls = RX8 ∧ yX8_set.cls ≠ "java/lang/invoke/MethodHandle" ∧ yX8_set.cls ≠ "java/lang/invoke/VarHandle" ∧ (parseMethodDescriptor yX8_set.desc).map (fun d => d.parameters.length) = some 3 := by decide +kernel
theorem eV_X9_highestLower : yX9_highestLower.cls = RX9 ∧ yX9_highestLower.cls ≠ "java/lang/invoke/MethodHandle" ∧ yX9_highestLower.cls ≠ "java/lang/invoke/VarHandle" ∧ (parseMethodDescriptor yX9_highestLower.desc).map (fun d => d.parameters.length) = some 0 := by decide +kernel
theorem eV_X9_isAbove : yX9_isAbove.cls = RX9 ∧ yX9_isAbove.cls ≠ "java/lang/invoke/MethodHandle" ∧ yX9_isAbove.cls ≠ "java/lang/invoke/VarHandle" ∧ (parseMethodDescriptor yX9_isAbove.desc).map (fun d => d.parameters.length) = some 4 := by decide +kernel
theorem eV_X9_leftByGates : yX9_leftByGates.cls = RX9 ∧ yX9_leftByGates.cls ≠ "java/lang/invoke/MethodHandle" ∧ yX9_leftByGates.cls ≠ "java/lang/invoke/VarHandle" ∧ (parseMethodDescriptor yX9_leftByGates.desc).map (fun d => d.parameters.length) = some 3 := by decide +kernel
theorem eV_X9_leftByLuck : yX9_leftByLuck.cls = RX9 ∧ yX9_leftByLuck.cls ≠ "java/lang/invoke/MethodHandle" ∧ yX9_leftByLuck.cls ≠ "java/lang/invoke/VarHandle" ∧ (parseMethodDescriptor yX9_leftByLuck.desc).map (fun d => d.parameters.length) = some 1 := by decide +kernel
theorem eV_X9_lowerOf : yX9_lowerOf.cls = RX9 ∧ yX9_lowerOf.cls ≠ "java/lang/invoke/MethodHandle" ∧ yX9_lowerOf.cls ≠ "java/lang/invoke/VarHandle" ∧ (parseMethodDescriptor yX9_lowerOf.desc).map (fun d => d.parameters.length) = some 1 := by decide +kernel
theorem eV_X9_lowestUpper : yX9_lowestUpper.cls = RX9 ∧ yX9_lowestUpper.cls ≠ "java/lang/invoke/MethodHandle" ∧ yX9_lowestUpper.cls ≠ "java/lang/invoke/VarHandle" ∧ (parseMethodDescriptor yX9_lowestUpper.desc).map (fun d => d.parameters.length) = some 0 := by decide +kernel
theorem eV_X9_stonesMeet : yX9_stonesMeet.cls = RX9 ∧ yX9_stonesMeet.cls ≠ "java/lang/invoke/MethodHandle" ∧ yX9_stonesMeet.cls ≠ "java/lang/invoke/VarHandle" ∧ (parseMethodDescriptor yX9_stonesMeet.desc).map (fun d => d.parameters.length) = some 0 := by decide +kernel
theorem eV_X9_upperOf : yX9_upperOf.cls = RX9 ∧ yX9_upperOf.cls ≠ "java/lang/invoke/MethodHandle" ∧ yX9_upperOf.cls ≠ "java/lang/invoke/VarHandle" ∧ (parseMethodDescriptor yX9_upperOf.desc).map (fun d => d.parameters.length) = some 1 := by decide +kernel
def F_X8_become (n_p0_cells : Nat) (n_this_cells : Nat) (v_p0_cells : Nat → Int32) (v_p0_rows : Int32) (v_p0_width : Int32) (v_this_cells : Nat → Int32) (v_this_rows : Int32) : Option ((Nat → Int32) × Int32) :=
lt (if (if (Int32.ofNat n_this_cells) < (Int32.ofNat n_p0_cells) then (Int32.ofNat n_this_cells) else (Int32.ofNat n_p0_cells)) < (v_p0_rows * v_p0_width) then (if (Int32.ofNat n_this_cells) < (Int32.ofNat n_p0_cells) then (Int32.ofNat n_this_cells) else (Int32.ofNat n_p0_cells)) else (v_p0_rows * v_p0_width)) fun x_1 =>
Option.bind (cpI v_p0_cells n_p0_cells (0 : Int32) v_this_cells n_this_cells (0 : Int32) (if (0 : Int32) < x_1 then x_1 else (0 : Int32))) fun g_2 =>
some (g_2, v_p0_rows)

def F_X0_become (v_p0_acts_cells : Nat → Int32) (v_p0_acts_rows : Int32) (v_p0_debts_cells : Nat → Int32) (v_p0_debts_rows : Int32) (v_p0_gates_cells : Nat → Int32) (v_p0_gates_rows : Int32) (v_p0_letters_cells : Nat → Int32) (v_p0_letters_rows : Int32) (v_p0_loads_cells : Nat → Int32) (v_p0_loads_rows : Int32) (v_p0_mentions_cells : Nat → Int32) (v_p0_mentions_rows : Int32) (v_p0_merchants_cells : Nat → Int32) (v_p0_merchants_rows : Int32) (v_p0_names : Int32) (v_p0_narrow : Int32) (v_p0_payments_cells : Nat → Int32) (v_p0_payments_rows : Int32) (v_p0_prices_cells : Nat → Int32) (v_p0_prices_rows : Int32) (v_p0_purses_cells : Nat → Int32) (v_p0_purses_rows : Int32) (v_p0_stones_cells : Nat → Int32) (v_p0_stones_rows : Int32) (v_p0_texts_cells : Nat → Int32) (v_p0_texts_rows : Int32) (v_p0_told_cells : Nat → Int32) (v_p0_told_rows : Int32) (v_this_acts_cells : Nat → Int32) (v_this_acts_rows : Int32) (v_this_debts_cells : Nat → Int32) (v_this_debts_rows : Int32) (v_this_gates_cells : Nat → Int32) (v_this_gates_rows : Int32) (v_this_letters_cells : Nat → Int32) (v_this_letters_rows : Int32) (v_this_loads_cells : Nat → Int32) (v_this_loads_rows : Int32) (v_this_mentions_cells : Nat → Int32) (v_this_mentions_rows : Int32) (v_this_merchants_cells : Nat → Int32) (v_this_merchants_rows : Int32) (v_this_names : Int32) (v_this_narrow : Int32) (v_this_payments_cells : Nat → Int32) (v_this_payments_rows : Int32) (v_this_prices_cells : Nat → Int32) (v_this_prices_rows : Int32) (v_this_purses_cells : Nat → Int32) (v_this_purses_rows : Int32) (v_this_stones_cells : Nat → Int32) (v_this_stones_rows : Int32) (v_this_texts_cells : Nat → Int32) (v_this_texts_rows : Int32) (v_this_told_cells : Nat → Int32) (v_this_told_rows : Int32) : Option ((Nat → Int32) × Int32 × (Nat → Int32) × Int32 × (Nat → Int32) × Int32 × (Nat → Int32) × Int32 × (Nat → Int32) × Int32 × (Nat → Int32) × Int32 × (Nat → Int32) × Int32 × Int32 × Int32 × (Nat → Int32) × Int32 × (Nat → Int32) × Int32 × (Nat → Int32) × Int32 × (Nat → Int32) × Int32 × (Nat → Int32) × Int32 × (Nat → Int32) × Int32) :=
Option.bind (F_X8_become 20 20 v_p0_merchants_cells v_p0_merchants_rows (2 : Int32) v_this_merchants_cells v_this_merchants_rows) fun c_1 =>
Option.bind (F_X8_become 204 204 v_p0_texts_cells v_p0_texts_rows (51 : Int32) v_this_texts_cells v_this_texts_rows) fun c_2 =>
Option.bind (F_X8_become 1664 1664 v_p0_acts_cells v_p0_acts_rows (104 : Int32) v_this_acts_cells v_this_acts_rows) fun c_3 =>
Option.bind (F_X8_become 280 280 v_p0_debts_cells v_p0_debts_rows (7 : Int32) v_this_debts_cells v_this_debts_rows) fun c_4 =>
Option.bind (F_X8_become 180 180 v_p0_payments_cells v_p0_payments_rows (3 : Int32) v_this_payments_cells v_this_payments_rows) fun c_5 =>
Option.bind (F_X8_become 39 39 v_p0_purses_cells v_p0_purses_rows (13 : Int32) v_this_purses_cells v_this_purses_rows) fun c_6 =>
Option.bind (F_X8_become 6 6 v_p0_gates_cells v_p0_gates_rows (1 : Int32) v_this_gates_cells v_this_gates_rows) fun c_7 =>
Option.bind (F_X8_become 36 36 v_p0_stones_cells v_p0_stones_rows (3 : Int32) v_this_stones_cells v_this_stones_rows) fun c_8 =>
Option.bind (F_X8_become 120 120 v_p0_told_cells v_p0_told_rows (3 : Int32) v_this_told_cells v_this_told_rows) fun c_9 =>
Option.bind (F_X8_become 150 150 v_p0_letters_cells v_p0_letters_rows (5 : Int32) v_this_letters_cells v_this_letters_rows) fun c_10 =>
Option.bind (F_X8_become 30 30 v_p0_mentions_cells v_p0_mentions_rows (3 : Int32) v_this_mentions_cells v_this_mentions_rows) fun c_11 =>
Option.bind (F_X8_become 18 18 v_p0_loads_cells v_p0_loads_rows (3 : Int32) v_this_loads_cells v_this_loads_rows) fun c_12 =>
Option.bind (F_X8_become 3 3 v_p0_prices_cells v_p0_prices_rows (3 : Int32) v_this_prices_cells v_this_prices_rows) fun c_13 =>
some (c_3.1, c_3.2, c_4.1, c_4.2, c_7.1, c_7.2, c_10.1, c_10.2, c_12.1, c_12.2, c_11.1, c_11.2, c_1.1, c_1.2, v_p0_names, v_p0_narrow, c_5.1, c_5.2, c_13.1, c_13.2, c_6.1, c_6.2, c_8.1, c_8.2, c_2.1, c_2.2, c_9.1, c_9.2)

def F_X0_howMany (v_this_acts_rows : Int32) (v_this_debts_rows : Int32) (v_this_gates_rows : Int32) (v_this_letters_rows : Int32) (v_this_loads_rows : Int32) (v_this_mentions_rows : Int32) (v_this_merchants_rows : Int32) (v_this_payments_rows : Int32) (v_this_purses_rows : Int32) (v_this_stones_rows : Int32) (v_this_told_rows : Int32) (p0 : Int32) : Option (Int32) :=
if p0 = (0 : Int32) then (
some v_this_merchants_rows) else (
if p0 = (1 : Int32) then (
some v_this_acts_rows) else (
if p0 = (2 : Int32) then (
some v_this_debts_rows) else (
if p0 = (3 : Int32) then (
some v_this_payments_rows) else (
if p0 = (4 : Int32) then (
some v_this_purses_rows) else (
if p0 = (5 : Int32) then (
some v_this_gates_rows) else (
if p0 = (6 : Int32) then (
some v_this_stones_rows) else (
if p0 = (7 : Int32) then (
some v_this_told_rows) else (
if p0 = (8 : Int32) then (
some v_this_letters_rows) else (
if p0 = (9 : Int32) then (
some v_this_mentions_rows) else (
if p0 = (10 : Int32) then (
some v_this_loads_rows) else (
some (-2 : Int32))))))))))))

def F_X8_placeOf (v_this_rows : Int32) (v_this_width : Int32) (p0 : Int32) (p1 : Int32) : Option (Int32) :=
Option.bind (if p0 < 0 then (
some (0 : Int32)) else (
if p0 < v_this_rows then (
if p1 < 0 then (
some (0 : Int32)) else (
if p1 < v_this_width then (
some (1 : Int32)) else (
some (0 : Int32)))) else (
some (0 : Int32)))) fun j_1 =>
Option.bind (if j_1 = 0 then (
some (-1 : Int32)) else (
some ((p0 * v_this_width) + p1))) fun j_2 =>
some j_2

def F_X8_get (n_this_cells : Nat) (v_this_cells : Nat → Int32) (v_this_rows : Int32) (v_this_width : Int32) (p0 : Int32) (p1 : Int32) : Option (Int32) :=
Option.bind (F_X8_placeOf v_this_rows v_this_width p0 p1) fun c_1 =>
Option.bind (if c_1 < 0 then (
some (0 : Int32)) else (
if c_1 < (Int32.ofNat n_this_cells) then (
Option.bind (gI v_this_cells n_this_cells c_1) fun t_3 =>
some t_3) else (
some (0 : Int32)))) fun j_2 =>
some j_2

def B_X8_mixRow_6 (p2 : Int32) (v_this_width : Int32) (n_this_cells : Nat) (v_this_cells : Nat → Int32) (v_this_rows : Int32) (p1 : Int32) (s_1 : Int64 × Int32) : Option ((Int64 × Int32) ⊕ (Int64 × Int32)) :=
if s_1.2 < p2 then (
if s_1.2 < v_this_width then (
Option.bind (F_X8_get n_this_cells v_this_cells v_this_rows v_this_width p1 s_1.2) fun c_3 =>
lt (((31 : Int64) * s_1.1) + c_3.toInt64) fun x_4 =>
lt (s_1.2 + (1 : Int32)) fun x_5 =>
some (Sum.inl (x_4, x_5))) else (
some (Sum.inr (s_1.1, s_1.2)))) else (
some (Sum.inr (s_1.1, s_1.2)))
def F_X8_mixRow (n_this_cells : Nat) (v_this_cells : Nat → Int32) (v_this_rows : Int32) (v_this_width : Int32) (p0 : Int64) (p1 : Int32) (p2 : Int32) : Option (Int64) :=
Option.bind (itr (B_X8_mixRow_6 p2 v_this_width n_this_cells v_this_cells v_this_rows p1) FU (p0, (0 : Int32))) fun x_2 =>
some x_2.1

def B_X8_mixAll_6 (v_this_rows : Int32) (n_this_cells : Nat) (v_this_cells : Nat → Int32) (v_this_width : Int32) (p1 : Int32) (s_1 : Int64 × Int32) : Option ((Int64 × Int32) ⊕ (Int64 × Int32)) :=
if s_1.2 < v_this_rows then (
Option.bind (F_X8_mixRow n_this_cells v_this_cells v_this_rows v_this_width s_1.1 s_1.2 p1) fun c_3 =>
lt (s_1.2 + (1 : Int32)) fun x_4 =>
some (Sum.inl (c_3, x_4))) else (
some (Sum.inr (s_1.1, s_1.2)))
def F_X8_mixAll (n_this_cells : Nat) (v_this_cells : Nat → Int32) (v_this_rows : Int32) (v_this_width : Int32) (p0 : Int64) (p1 : Int32) : Option (Int64) :=
Option.bind (itr (B_X8_mixAll_6 v_this_rows n_this_cells v_this_cells v_this_width p1) FU (p0, (0 : Int32))) fun x_2 =>
some x_2.1

def B_X8_mixTexts_6 (v_this_rows : Int32) (n_this_cells : Nat) (v_this_cells : Nat → Int32) (v_this_width : Int32) (p1 : Int32) (s_1 : Int64 × Int32) : Option ((Int64 × Int32) ⊕ (Int64 × Int32)) :=
if s_1.2 < v_this_rows then (
Option.bind (F_X8_get n_this_cells v_this_cells v_this_rows v_this_width s_1.2 p1) fun c_3 =>
Option.bind (F_X8_mixRow n_this_cells v_this_cells v_this_rows v_this_width s_1.1 s_1.2 ((p1 + (1 : Int32)) + c_3)) fun c_4 =>
lt (s_1.2 + (1 : Int32)) fun x_5 =>
some (Sum.inl (c_4, x_5))) else (
some (Sum.inr (s_1.1, s_1.2)))
def F_X8_mixTexts (n_this_cells : Nat) (v_this_cells : Nat → Int32) (v_this_rows : Int32) (v_this_width : Int32) (p0 : Int64) (p1 : Int32) : Option (Int64) :=
Option.bind (itr (B_X8_mixTexts_6 v_this_rows n_this_cells v_this_cells v_this_width p1) FU (p0, (0 : Int32))) fun x_2 =>
some x_2.1

def F_X0_mixPeople (v_this_acts_cells : Nat → Int32) (v_this_acts_rows : Int32) (v_this_debts_cells : Nat → Int32) (v_this_debts_rows : Int32) (v_this_merchants_cells : Nat → Int32) (v_this_merchants_rows : Int32) (v_this_payments_cells : Nat → Int32) (v_this_payments_rows : Int32) (v_this_purses_cells : Nat → Int32) (v_this_purses_rows : Int32) (p0 : Int64) : Option (Int64) :=
Option.bind (F_X8_mixAll 20 v_this_merchants_cells v_this_merchants_rows (2 : Int32) p0 (2 : Int32)) fun c_1 =>
Option.bind (F_X8_mixTexts 1664 v_this_acts_cells v_this_acts_rows (104 : Int32) c_1 (2 : Int32)) fun c_2 =>
Option.bind (F_X8_mixAll 280 v_this_debts_cells v_this_debts_rows (7 : Int32) c_2 (7 : Int32)) fun c_3 =>
Option.bind (F_X8_mixAll 180 v_this_payments_cells v_this_payments_rows (3 : Int32) c_3 (3 : Int32)) fun c_4 =>
Option.bind (F_X8_mixAll 39 v_this_purses_cells v_this_purses_rows (13 : Int32) c_4 ((3 : Int32) + v_this_merchants_rows)) fun c_5 =>
some c_5

def F_X0_mixTrade (v_this_gates_cells : Nat → Int32) (v_this_gates_rows : Int32) (v_this_letters_cells : Nat → Int32) (v_this_letters_rows : Int32) (v_this_loads_cells : Nat → Int32) (v_this_loads_rows : Int32) (v_this_mentions_cells : Nat → Int32) (v_this_mentions_rows : Int32) (v_this_names : Int32) (v_this_narrow : Int32) (v_this_prices_cells : Nat → Int32) (v_this_prices_rows : Int32) (v_this_stones_cells : Nat → Int32) (v_this_stones_rows : Int32) (v_this_texts_cells : Nat → Int32) (v_this_texts_rows : Int32) (v_this_told_cells : Nat → Int32) (v_this_told_rows : Int32) (p0 : Int64) : Option (Int64) :=
Option.bind (F_X8_mixAll 6 v_this_gates_cells v_this_gates_rows (1 : Int32) p0 (1 : Int32)) fun c_1 =>
lt (((31 : Int64) * c_1) + v_this_narrow.toInt64) fun x_2 =>
Option.bind (F_X8_mixAll 36 v_this_stones_cells v_this_stones_rows (3 : Int32) x_2 (3 : Int32)) fun c_3 =>
lt (((31 : Int64) * c_3) + v_this_names.toInt64) fun x_4 =>
Option.bind (F_X8_mixAll 120 v_this_told_cells v_this_told_rows (3 : Int32) x_4 (3 : Int32)) fun c_5 =>
Option.bind (F_X8_mixAll 150 v_this_letters_cells v_this_letters_rows (5 : Int32) c_5 (5 : Int32)) fun c_6 =>
Option.bind (F_X8_mixAll 30 v_this_mentions_cells v_this_mentions_rows (3 : Int32) c_6 (3 : Int32)) fun c_7 =>
Option.bind (F_X8_mixAll 18 v_this_loads_cells v_this_loads_rows (3 : Int32) c_7 (3 : Int32)) fun c_8 =>
Option.bind (F_X8_mixAll 3 v_this_prices_cells v_this_prices_rows (3 : Int32) c_8 (3 : Int32)) fun c_9 =>
Option.bind (F_X8_mixTexts 204 v_this_texts_cells v_this_texts_rows (51 : Int32) c_9 (0 : Int32)) fun c_10 =>
some c_10

def F_X0_kin (v_this_merchants_cells : Nat → Int32) (v_this_merchants_rows : Int32) (p0 : Int32) (p1 : Int32) : Option (Int32) :=
Option.bind (F_X8_get 20 v_this_merchants_cells v_this_merchants_rows (2 : Int32) p0 (0 : Int32)) fun c_1 =>
Option.bind (F_X8_get 20 v_this_merchants_cells v_this_merchants_rows (2 : Int32) p1 (0 : Int32)) fun c_2 =>
Option.bind (if c_1 = c_2 then (
some (1 : Int32)) else (
some (0 : Int32))) fun j_3 =>
some j_3

def F_X8_set (n_this_cells : Nat) (v_this_cells : Nat → Int32) (v_this_rows : Int32) (v_this_width : Int32) (p0 : Int32) (p1 : Int32) (p2 : Int32) : Option ((Nat → Int32)) :=
Option.bind (F_X8_placeOf v_this_rows v_this_width p0 p1) fun c_1 =>
Option.bind (if c_1 < 0 then (
some v_this_cells) else (
if c_1 < (Int32.ofNat n_this_cells) then (
Option.bind (sI v_this_cells n_this_cells c_1 p2) fun g_3 =>
some g_3) else (
some v_this_cells))) fun j_2 =>
some j_2

def B_X1_inscribe_31 (c_1 : Int32) (v_this_house_texts_cells : Nat → Int32) (v_this_house_texts_rows : Int32) (p1 : Int32) (v_this_house_acts_rows : Int32) (p0 : Int32) (s_3 : Int32 × (Nat → Int32)) : Option ((Int32 × (Nat → Int32)) ⊕ (Int32 × (Nat → Int32))) :=
if c_1 < s_3.1 then (
some (Sum.inr (s_3.1, s_3.2))) else (
Option.bind (F_X8_get 204 v_this_house_texts_cells v_this_house_texts_rows (51 : Int32) p1 s_3.1) fun c_5 =>
Option.bind (F_X8_set 1664 s_3.2 v_this_house_acts_rows (104 : Int32) p0 ((2 : Int32) + s_3.1) c_5) fun c_6 =>
lt (s_3.1 + (1 : Int32)) fun x_7 =>
some (Sum.inl (x_7, c_6)))
def B_X1_inscribe_92 (v_p2_count : Int32) (v_p2_codes : Nat → Int32) (v_this_house_acts_rows : Int32) (p0 : Int32) (s_9 : Int32 × (Nat → Int32)) : Option ((Int32 × (Nat → Int32)) ⊕ (Int32 × (Nat → Int32))) :=
if s_9.1 < v_p2_count then (
if s_9.1 < (50 : Int32) then (
Option.bind (gI v_p2_codes 50 s_9.1) fun t_11 =>
Option.bind (F_X8_set 1664 s_9.2 v_this_house_acts_rows (104 : Int32) p0 ((54 : Int32) + s_9.1) t_11) fun c_12 =>
lt (s_9.1 + (1 : Int32)) fun x_13 =>
some (Sum.inl (x_13, c_12))) else (
some (Sum.inr (s_9.1, s_9.2)))) else (
some (Sum.inr (s_9.1, s_9.2)))
def F_X1_inscribe (v_p2_codes : Nat → Int32) (v_p2_count : Int32) (v_this_house_acts_cells : Nat → Int32) (v_this_house_acts_rows : Int32) (v_this_house_texts_cells : Nat → Int32) (v_this_house_texts_rows : Int32) (p0 : Int32) (p1 : Int32) : Option ((Nat → Int32)) :=
Option.bind (F_X8_get 204 v_this_house_texts_cells v_this_house_texts_rows (51 : Int32) p1 (0 : Int32)) fun c_1 =>
Option.bind (F_X8_set 1664 v_this_house_acts_cells v_this_house_acts_rows (104 : Int32) p0 (2 : Int32) c_1) fun c_2 =>
Option.bind (itr (B_X1_inscribe_31 c_1 v_this_house_texts_cells v_this_house_texts_rows p1 v_this_house_acts_rows p0) FU ((1 : Int32), c_2)) fun x_4 =>
Option.bind (F_X8_set 1664 x_4.2 v_this_house_acts_rows (104 : Int32) p0 (53 : Int32) v_p2_count) fun c_8 =>
Option.bind (itr (B_X1_inscribe_92 v_p2_count v_p2_codes v_this_house_acts_rows p0) FU ((0 : Int32), c_8)) fun x_10 =>
some x_10.2

def B_X1_inForce_8 (v_this_house_acts_rows : Int32) (v_this_house_acts_cells : Nat → Int32) (p0 : Int32) (p1 : Int32) (s_1 : Int32 × Int32 × Int32) : Option ((Int32 × Int32 × Int32) ⊕ (Int32 × Int32 × Int32)) :=
if s_1.2.2 < v_this_house_acts_rows then (
Option.bind (F_X8_get 1664 v_this_house_acts_cells v_this_house_acts_rows (104 : Int32) s_1.2.2 (1 : Int32)) fun c_3 =>
Option.bind (F_X8_get 1664 v_this_house_acts_cells v_this_house_acts_rows (104 : Int32) s_1.2.2 (0 : Int32)) fun c_4 =>
Option.bind (if c_4 = p0 then (
if p1 < c_3 then (
some (s_1.1, s_1.2.1)) else (
if c_3 < s_1.2.1 then (
some (s_1.1, s_1.2.1)) else (
some (s_1.2.2, c_3)))) else (
some (s_1.1, s_1.2.1))) fun j_5 =>
lt (s_1.2.2 + (1 : Int32)) fun x_6 =>
some (Sum.inl (j_5.1, j_5.2, x_6))) else (
some (Sum.inr (s_1.1, s_1.2.1, s_1.2.2)))
def F_X1_inForce (v_this_house_acts_cells : Nat → Int32) (v_this_house_acts_rows : Int32) (p0 : Int32) (p1 : Int32) : Option (Int32) :=
Option.bind (itr (B_X1_inForce_8 v_this_house_acts_rows v_this_house_acts_cells p0 p1) FU ((-1 : Int32), (-1 : Int32), (0 : Int32))) fun x_2 =>
some x_2.1

def F_X1_meet (v_this_about : Int64) (v_this_gate : Int32) (v_this_kin : Int32) (v_this_season : Int32) (v_this_town : Int32) (p0 : Int32) (p1 : Int32) (p2 : Int32) (p3 : Int32) (p4 : Int64) : Option (Int64 × Int32 × Int32 × Int32 × Int32) :=
some (p4, p0, p1, p3, p2)

def F_X1_pop (v_this_height : Int32) (v_this_stack : Nat → Int64) : Option (Int64 × Int32) :=
if 0 < v_this_height then (
if (50 : Int32) < v_this_height then (
some ((0 : Int64), v_this_height)) else (
lt (v_this_height - (1 : Int32)) fun x_1 =>
Option.bind (gL v_this_stack 50 x_1) fun t_2 =>
some (t_2, x_1))) else (
some ((0 : Int64), v_this_height))

def F_X1_push (v_this_height : Int32) (v_this_stack : Nat → Int64) (p0 : Int64) : Option (Int32 × (Nat → Int64)) :=
Option.bind (if v_this_height < 0 then (
some (v_this_height, v_this_stack)) else (
if v_this_height < (50 : Int32) then (
Option.bind (sL v_this_stack 50 v_this_height p0) fun g_2 =>
lt (v_this_height + (1 : Int32)) fun x_3 =>
some (x_3, g_2)) else (
some (v_this_height, v_this_stack)))) fun j_1 =>
some (j_1.1, j_1.2)

def F_X1_joined (p0 : Int32) (p1 : Int64) (p2 : Int64) : Option (Int64) :=
if p0 = (38 : Int32) then (
Option.bind (if p1 = (0 : Int64) then (
some (0 : Int64)) else (
if p2 = (0 : Int64) then (
some (0 : Int64)) else (
some (1 : Int64)))) fun j_1 =>
some j_1) else (
if p0 = (42 : Int32) then (
some (p1 * p2)) else (
if p0 = (43 : Int32) then (
some (p1 + p2)) else (
if p0 = (45 : Int32) then (
some (p1 - p2)) else (
if p0 = (47 : Int32) then (
Option.bind (if p2 = (0 : Int64) then (
some (0 : Int64)) else (
Option.bind (qL p1 p2) fun t_3 =>
some t_3)) fun j_2 =>
some j_2) else (
if p0 = (60 : Int32) then (
Option.bind (if p1 < p2 then (
some (1 : Int64)) else (
some (0 : Int64))) fun j_4 =>
some j_4) else (
if p0 = (61 : Int32) then (
Option.bind (if p1 = p2 then (
some (1 : Int64)) else (
some (0 : Int64))) fun j_5 =>
some j_5) else (
if p0 = (62 : Int32) then (
Option.bind (if p2 < p1 then (
some (1 : Int64)) else (
some (0 : Int64))) fun j_6 =>
some j_6) else (
if p0 = (124 : Int32) then (
Option.bind (if p1 = (0 : Int64) then (
if p2 = (0 : Int64) then (
some (0 : Int64)) else (
some (1 : Int64))) else (
some (1 : Int64))) fun j_7 =>
some j_7) else (
some (0 : Int64))))))))))

def F_X1_work (v_this_about : Int64) (v_this_gate : Int32) (v_this_height : Int32) (v_this_kin : Int32) (v_this_season : Int32) (v_this_stack : Nat → Int64) (v_this_town : Int32) (p0 : Int32) : Option (Int32 × (Nat → Int64)) :=
if p0 < 0 then (
Option.bind (if (-p0) = (33 : Int32) then (
Option.bind (F_X1_pop v_this_height v_this_stack) fun c_2 =>
Option.bind (if c_2.1 = (0 : Int64) then (
some (1 : Int64)) else (
some (0 : Int64))) fun j_3 =>
Option.bind (F_X1_push c_2.2 v_this_stack j_3) fun c_4 =>
some (c_4.1, c_4.2)) else (
if (-p0) = (63 : Int32) then (
Option.bind (F_X1_pop v_this_height v_this_stack) fun c_5 =>
Option.bind (F_X1_pop c_5.2 v_this_stack) fun c_6 =>
Option.bind (F_X1_pop c_6.2 v_this_stack) fun c_7 =>
Option.bind (if c_7.1 = (0 : Int64) then (
some c_5.1) else (
some c_6.1)) fun j_8 =>
Option.bind (F_X1_push c_7.2 v_this_stack j_8) fun c_9 =>
some (c_9.1, c_9.2)) else (
if (-p0) = (103 : Int32) then (
Option.bind (F_X1_push v_this_height v_this_stack v_this_gate.toInt64) fun c_10 =>
some (c_10.1, c_10.2)) else (
if (-p0) = (107 : Int32) then (
Option.bind (F_X1_push v_this_height v_this_stack v_this_kin.toInt64) fun c_11 =>
some (c_11.1, c_11.2)) else (
if (-p0) = (115 : Int32) then (
Option.bind (F_X1_push v_this_height v_this_stack v_this_season.toInt64) fun c_12 =>
some (c_12.1, c_12.2)) else (
if (-p0) = (116 : Int32) then (
Option.bind (F_X1_push v_this_height v_this_stack v_this_town.toInt64) fun c_13 =>
some (c_13.1, c_13.2)) else (
if (-p0) = (119 : Int32) then (
Option.bind (F_X1_push v_this_height v_this_stack v_this_about) fun c_14 =>
some (c_14.1, c_14.2)) else (
if (-p0) = (126 : Int32) then (
Option.bind (F_X1_pop v_this_height v_this_stack) fun c_15 =>
Option.bind (F_X1_push c_15.2 v_this_stack (-c_15.1)) fun c_16 =>
some (c_16.1, c_16.2)) else (
Option.bind (F_X1_pop v_this_height v_this_stack) fun c_17 =>
Option.bind (F_X1_pop c_17.2 v_this_stack) fun c_18 =>
Option.bind (F_X1_joined (-p0) c_18.1 c_17.1) fun c_19 =>
Option.bind (F_X1_push c_18.2 v_this_stack c_19) fun c_20 =>
some (c_20.1, c_20.2)))))))))) fun j_1 =>
some (j_1.1, j_1.2)) else (
Option.bind (F_X1_push v_this_height v_this_stack p0.toInt64) fun c_21 =>
some (c_21.1, c_21.2))

def B_X1_run_14 (p2 : Int32) (p1 : Int32) (n_p0 : Nat) (v_p0 : Nat → Int32) (v_this_about : Int64) (v_this_gate : Int32) (v_this_kin : Int32) (v_this_season : Int32) (v_this_town : Int32) (s_1 : Int32 × Int32 × (Nat → Int64)) : Option ((Int32 × Int32 × (Nat → Int64)) ⊕ (Int32 × Int32 × (Nat → Int64))) :=
if s_1.1 < p2 then (
lt (p1 + s_1.1) fun x_3 =>
Option.bind (if x_3 < 0 then (
some (s_1.2.1, s_1.2.2)) else (
if x_3 < (Int32.ofNat n_p0) then (
Option.bind (gI v_p0 n_p0 x_3) fun t_5 =>
Option.bind (F_X1_work v_this_about v_this_gate s_1.2.1 v_this_kin v_this_season s_1.2.2 v_this_town t_5) fun c_6 =>
some (c_6.1, c_6.2)) else (
some (s_1.2.1, s_1.2.2)))) fun j_4 =>
lt (s_1.1 + (1 : Int32)) fun x_7 =>
some (Sum.inl (x_7, j_4.1, j_4.2))) else (
some (Sum.inr (s_1.1, s_1.2.1, s_1.2.2)))
def F_X1_run (n_p0 : Nat) (v_p0 : Nat → Int32) (v_this_about : Int64) (v_this_gate : Int32) (v_this_height : Int32) (v_this_kin : Int32) (v_this_season : Int32) (v_this_stack : Nat → Int64) (v_this_town : Int32) (p1 : Int32) (p2 : Int32) : Option (Int64 × Int32 × (Nat → Int64)) :=
Option.bind (itr (B_X1_run_14 p2 p1 n_p0 v_p0 v_this_about v_this_gate v_this_kin v_this_season v_this_town) FU ((0 : Int32), (0 : Int32), v_this_stack)) fun x_2 =>
Option.bind (F_X1_pop x_2.2.1 x_2.2.2) fun c_8 =>
some (c_8.1, c_8.2, x_2.2.2)

def F_X1_said (v_this_about : Int64) (v_this_gate : Int32) (v_this_height : Int32) (v_this_house_acts_cells : Nat → Int32) (v_this_house_acts_rows : Int32) (v_this_kin : Int32) (v_this_season : Int32) (v_this_stack : Nat → Int64) (v_this_town : Int32) (p0 : Int32) (p1 : Int32) (p2 : Int32) (p3 : Int32) (p4 : Int32) (p5 : Int64) : Option (Int64 × Int64 × Int32 × Int32 × Int32 × Int32 × (Nat → Int64) × Int32) :=
if p0 < 0 then (
some ((0 : Int64), v_this_about, v_this_gate, v_this_height, v_this_kin, v_this_season, v_this_stack, v_this_town)) else (
if p0 < (3 : Int32) then (
if p0 < (3 : Int32) then (
Option.bind (F_X1_inForce v_this_house_acts_cells v_this_house_acts_rows p0 p1) fun c_3 =>
if c_3 = (-1 : Int32) then (
Option.bind (gI ii_usual 3 p0) fun t_11 =>
some (t_11.toInt64, v_this_about, v_this_gate, v_this_height, v_this_kin, v_this_season, v_this_stack, v_this_town)) else (
Option.bind (F_X1_meet v_this_about v_this_gate v_this_kin v_this_season v_this_town p2 p3 p4 p1 p5) fun c_4 =>
Option.bind (F_X8_placeOf v_this_house_acts_rows (104 : Int32) c_3 (54 : Int32)) fun c_5 =>
Option.bind (F_X8_get 1664 v_this_house_acts_cells v_this_house_acts_rows (104 : Int32) c_3 (53 : Int32)) fun c_6 =>
Option.bind (F_X1_run 1664 v_this_house_acts_cells c_4.1 c_4.2.1 v_this_height c_4.2.2.1 c_4.2.2.2.1 v_this_stack c_4.2.2.2.2 c_5 c_6) fun c_7 =>
Option.bind (gI ii_most 3 p0) fun t_9 =>
some (if (if t_9.toInt64 < c_7.1 then t_9.toInt64 else c_7.1) < (0 : Int64) then (0 : Int64) else (if t_9.toInt64 < c_7.1 then t_9.toInt64 else c_7.1), c_4.1, c_4.2.1, c_7.2.1, c_4.2.2.1, c_4.2.2.2.1, c_7.2.2, c_4.2.2.2.2))) else (
some ((0 : Int64), v_this_about, v_this_gate, v_this_height, v_this_kin, v_this_season, v_this_stack, v_this_town))) else (
some ((0 : Int64), v_this_about, v_this_gate, v_this_height, v_this_kin, v_this_season, v_this_stack, v_this_town)))

def B_J7_fill_d0a16_6 (x_1 : Int32) (n_p0 : Nat) (p1 : Int64) (s_2 : Int32 × (Nat → Int64)) : Option ((Int32 × (Nat → Int64)) ⊕ (Int32 × (Nat → Int64))) :=
if s_2.1 < x_1 then (
Option.bind (sL s_2.2 n_p0 s_2.1 p1) fun g_4 =>
lt (s_2.1 + (1 : Int32)) fun x_5 =>
some (Sum.inl (x_5, g_4))) else (
some (Sum.inr (s_2.1, s_2.2)))
def F_J7_fill_d0a16 (n_p0 : Nat) (v_p0 : Nat → Int64) (p1 : Int64) : Option ((Nat → Int64)) :=
lt (Int32.ofNat n_p0) fun x_1 =>
Option.bind (itr (B_J7_fill_d0a16_6 x_1 n_p0 p1) FU ((0 : Int32), v_p0)) fun x_3 =>
some x_3.2

def B_X2_gather_10 (v_this_house_payments_rows : Int32) (v_this_house_payments_cells : Nat → Int32) (p0 : Int32) (s_2 : Int32 × (Nat → Int64)) : Option ((Int32 × (Nat → Int64)) ⊕ (Int32 × (Nat → Int64))) :=
if s_2.1 < v_this_house_payments_rows then (
Option.bind (F_X8_get 180 v_this_house_payments_cells v_this_house_payments_rows (3 : Int32) s_2.1 (1 : Int32)) fun c_4 =>
Option.bind (F_X8_get 180 v_this_house_payments_cells v_this_house_payments_rows (3 : Int32) s_2.1 (0 : Int32)) fun c_5 =>
Option.bind (if c_5 = p0 then (
if c_4 < 0 then (
some s_2.2) else (
if c_4 < (100 : Int32) then (
Option.bind (gL s_2.2 100 c_4) fun t_7 =>
Option.bind (F_X8_get 180 v_this_house_payments_cells v_this_house_payments_rows (3 : Int32) s_2.1 (2 : Int32)) fun c_8 =>
Option.bind (sL s_2.2 100 c_4 (t_7 + c_8.toInt64)) fun g_9 =>
some g_9) else (
some s_2.2))) else (
some s_2.2)) fun j_6 =>
lt (s_2.1 + (1 : Int32)) fun x_10 =>
some (Sum.inl (x_10, j_6))) else (
some (Sum.inr (s_2.1, s_2.2)))
def F_X2_gather (v_this_house_payments_cells : Nat → Int32) (v_this_house_payments_rows : Int32) (v_this_paid : Nat → Int64) (p0 : Int32) : Option ((Nat → Int64)) :=
Option.bind (F_J7_fill_d0a16 100 v_this_paid (0 : Int64)) fun c_1 =>
Option.bind (itr (B_X2_gather_10 v_this_house_payments_rows v_this_house_payments_cells p0) FU ((0 : Int32), c_1)) fun x_3 =>
some x_3.2

def F_X2_sumLent (v_this_house_debts_cells : Nat → Int32) (v_this_house_debts_rows : Int32) (p0 : Int32) (p1 : Int32) : Option (Int64) :=
Option.bind (F_X8_get 280 v_this_house_debts_cells v_this_house_debts_rows (7 : Int32) p0 (5 : Int32)) fun c_1 =>
Option.bind (F_X8_get 280 v_this_house_debts_cells v_this_house_debts_rows (7 : Int32) p0 (6 : Int32)) fun c_2 =>
Option.bind (if c_1 = (-1 : Int32) then (
some (0 : Int32)) else (
if c_2 = (-1 : Int32) then (
some (1 : Int32)) else (
if p1 < c_2 then (
some (1 : Int32)) else (
some (0 : Int32))))) fun j_3 =>
Option.bind (if j_3 = 0 then (
Option.bind (F_X8_get 280 v_this_house_debts_cells v_this_house_debts_rows (7 : Int32) p0 (2 : Int32)) fun c_5 =>
some c_5.toInt64) else (
some c_1.toInt64)) fun j_4 =>
some j_4

def B_X2_left_93 (p1 : Int32) (c_8 : (Nat → Int64)) (c_7 : Int32) (v_this_house_acts_cells : Nat → Int32) (v_this_house_acts_rows : Int32) (c_4 : Int32) (c_6 : Int32) (s_11 : Int64 × Int32 × Int64 × Int32 × Int32 × Int32 × Int32 × (Nat → Int64) × Int32) : Option ((Int64 × Int32 × Int64 × Int32 × Int32 × Int32 × Int32 × (Nat → Int64) × Int32) ⊕ (Int64 × Int32 × Int64 × Int32 × Int32 × Int32 × Int32 × (Nat → Int64) × Int32)) :=
if p1 < s_11.2.1 then (
some (Sum.inr (s_11.1, s_11.2.1, s_11.2.2.1, s_11.2.2.2.1, s_11.2.2.2.2.1, s_11.2.2.2.2.2.1, s_11.2.2.2.2.2.2.1, s_11.2.2.2.2.2.2.2.1, s_11.2.2.2.2.2.2.2.2))) else (
if s_11.2.1 < (100 : Int32) then (
if (0 : Int64) < s_11.1 then (
Option.bind (gL c_8 100 s_11.2.1) fun t_13 =>
lt (s_11.1 - (if t_13 < s_11.1 then t_13 else s_11.1)) fun x_14 =>
Option.bind (if c_7 < s_11.2.1 then (
if (0 : Int64) < x_14 then (
Option.bind (F_X1_said s_11.2.2.1 s_11.2.2.2.1 s_11.2.2.2.2.1 v_this_house_acts_cells v_this_house_acts_rows s_11.2.2.2.2.2.1 s_11.2.2.2.2.2.2.1 s_11.2.2.2.2.2.2.2.1 s_11.2.2.2.2.2.2.2.2 (1 : Int32) s_11.2.1 (0 : Int32) c_4 c_6 x_14) fun c_16 =>
Option.bind (qL (x_14 * c_16.1) (1000 : Int64)) fun t_17 =>
lt (if (x_14 + t_17) < (1000000000000 : Int64) then (x_14 + t_17) else (1000000000000 : Int64)) fun x_18 =>
some (x_18, c_16.2.1, c_16.2.2.1, c_16.2.2.2.1, c_16.2.2.2.2.1, c_16.2.2.2.2.2.1, c_16.2.2.2.2.2.2.1, c_16.2.2.2.2.2.2.2)) else (
some (x_14, s_11.2.2.1, s_11.2.2.2.1, s_11.2.2.2.2.1, s_11.2.2.2.2.2.1, s_11.2.2.2.2.2.2.1, s_11.2.2.2.2.2.2.2.1, s_11.2.2.2.2.2.2.2.2))) else (
some (x_14, s_11.2.2.1, s_11.2.2.2.1, s_11.2.2.2.2.1, s_11.2.2.2.2.2.1, s_11.2.2.2.2.2.2.1, s_11.2.2.2.2.2.2.2.1, s_11.2.2.2.2.2.2.2.2))) fun j_15 =>
lt (s_11.2.1 + (1 : Int32)) fun x_19 =>
some (Sum.inl (j_15.1, x_19, j_15.2.1, j_15.2.2.1, j_15.2.2.2.1, j_15.2.2.2.2.1, j_15.2.2.2.2.2.1, j_15.2.2.2.2.2.2.1, j_15.2.2.2.2.2.2.2))) else (
some (Sum.inr (s_11.1, s_11.2.1, s_11.2.2.1, s_11.2.2.2.1, s_11.2.2.2.2.1, s_11.2.2.2.2.2.1, s_11.2.2.2.2.2.2.1, s_11.2.2.2.2.2.2.2.1, s_11.2.2.2.2.2.2.2.2)))) else (
some (Sum.inr (s_11.1, s_11.2.1, s_11.2.2.1, s_11.2.2.2.1, s_11.2.2.2.2.1, s_11.2.2.2.2.2.1, s_11.2.2.2.2.2.2.1, s_11.2.2.2.2.2.2.2.1, s_11.2.2.2.2.2.2.2.2))))
def F_X2_left (v_this_house_acts_cells : Nat → Int32) (v_this_house_acts_rows : Int32) (v_this_house_debts_cells : Nat → Int32) (v_this_house_debts_rows : Int32) (v_this_house_merchants_cells : Nat → Int32) (v_this_house_merchants_rows : Int32) (v_this_house_payments_cells : Nat → Int32) (v_this_house_payments_rows : Int32) (v_this_law_about : Int64) (v_this_law_gate : Int32) (v_this_law_height : Int32) (v_this_law_kin : Int32) (v_this_law_season : Int32) (v_this_law_stack : Nat → Int64) (v_this_law_town : Int32) (v_this_paid : Nat → Int64) (p0 : Int32) (p1 : Int32) : Option (Int64 × Int64 × Int32 × Int32 × Int32 × Int32 × (Nat → Int64) × Int32 × (Nat → Int64)) :=
Option.bind (F_X8_get 280 v_this_house_debts_cells v_this_house_debts_rows (7 : Int32) p0 (3 : Int32)) fun c_1 =>
if p1 < c_1 then (
some ((0 : Int64), v_this_law_about, v_this_law_gate, v_this_law_height, v_this_law_kin, v_this_law_season, v_this_law_stack, v_this_law_town, v_this_paid)) else (
Option.bind (F_X8_get 280 v_this_house_debts_cells v_this_house_debts_rows (7 : Int32) p0 (0 : Int32)) fun c_2 =>
Option.bind (F_X8_get 280 v_this_house_debts_cells v_this_house_debts_rows (7 : Int32) p0 (1 : Int32)) fun c_3 =>
Option.bind (F_X0_kin v_this_house_merchants_cells v_this_house_merchants_rows c_2 c_3) fun c_4 =>
Option.bind (F_X8_get 280 v_this_house_debts_cells v_this_house_debts_rows (7 : Int32) p0 (1 : Int32)) fun c_5 =>
Option.bind (F_X8_get 20 v_this_house_merchants_cells v_this_house_merchants_rows (2 : Int32) c_5 (1 : Int32)) fun c_6 =>
Option.bind (F_X8_get 280 v_this_house_debts_cells v_this_house_debts_rows (7 : Int32) p0 (4 : Int32)) fun c_7 =>
Option.bind (F_X2_gather v_this_house_payments_cells v_this_house_payments_rows v_this_paid p0) fun c_8 =>
Option.bind (F_X2_sumLent v_this_house_debts_cells v_this_house_debts_rows p0 p1) fun c_9 =>
lt (if (0 : Int32) < c_1 then c_1 else (0 : Int32)) fun x_10 =>
Option.bind (itr (B_X2_left_93 p1 c_8 c_7 v_this_house_acts_cells v_this_house_acts_rows c_4 c_6) FU (c_9, x_10, v_this_law_about, v_this_law_gate, v_this_law_height, v_this_law_kin, v_this_law_season, v_this_law_stack, v_this_law_town)) fun x_12 =>
some (x_12.1, x_12.2.2.1, x_12.2.2.2.1, x_12.2.2.2.2.1, x_12.2.2.2.2.2.1, x_12.2.2.2.2.2.2.1, x_12.2.2.2.2.2.2.2.1, x_12.2.2.2.2.2.2.2.2, c_8))

def B_X2_sharesOfAll_4 (v_this_house_merchants_rows : Int32) (v_this_house_purses_cells : Nat → Int32) (v_this_house_purses_rows : Int32) (p0 : Int32) (s_1 : Int32 × Int32) : Option ((Int32 × Int32) ⊕ (Int32 × Int32)) :=
if s_1.2 < v_this_house_merchants_rows then (
Option.bind (F_X8_get 39 v_this_house_purses_cells v_this_house_purses_rows (13 : Int32) p0 ((3 : Int32) + s_1.2)) fun c_3 =>
lt (s_1.1 + c_3) fun x_4 =>
lt (s_1.2 + (1 : Int32)) fun x_5 =>
some (Sum.inl (x_4, x_5))) else (
some (Sum.inr (s_1.1, s_1.2)))
def F_X2_sharesOfAll (v_this_house_merchants_rows : Int32) (v_this_house_purses_cells : Nat → Int32) (v_this_house_purses_rows : Int32) (p0 : Int32) : Option (Int32) :=
Option.bind (itr (B_X2_sharesOfAll_4 v_this_house_merchants_rows v_this_house_purses_cells v_this_house_purses_rows p0) FU ((0 : Int32), (0 : Int32))) fun x_2 =>
some x_2.1

def F_X2_takenBy (v_this_house_acts_cells : Nat → Int32) (v_this_house_acts_rows : Int32) (v_this_house_merchants_cells : Nat → Int32) (v_this_house_merchants_rows : Int32) (v_this_house_purses_cells : Nat → Int32) (v_this_house_purses_rows : Int32) (v_this_law_about : Int64) (v_this_law_gate : Int32) (v_this_law_height : Int32) (v_this_law_kin : Int32) (v_this_law_season : Int32) (v_this_law_stack : Nat → Int64) (v_this_law_town : Int32) (p0 : Int32) (p1 : Int32) (p2 : Int32) : Option (Int32 × Int64 × Int32 × Int32 × Int32 × Int32 × (Nat → Int64) × Int32) :=
Option.bind (F_X8_get 39 v_this_house_purses_cells v_this_house_purses_rows (13 : Int32) p0 ((3 : Int32) + p1)) fun c_1 =>
Option.bind (F_X8_get 39 v_this_house_purses_cells v_this_house_purses_rows (13 : Int32) p0 (2 : Int32)) fun c_2 =>
lt (c_1.toInt64 * c_2.toInt64) fun x_3 =>
Option.bind (F_X8_get 39 v_this_house_purses_cells v_this_house_purses_rows (13 : Int32) p0 (0 : Int32)) fun c_4 =>
Option.bind (F_X0_kin v_this_house_merchants_cells v_this_house_merchants_rows p1 c_4) fun c_5 =>
Option.bind (F_X8_get 20 v_this_house_merchants_cells v_this_house_merchants_rows (2 : Int32) p1 (1 : Int32)) fun c_6 =>
Option.bind (F_X1_said v_this_law_about v_this_law_gate v_this_law_height v_this_house_acts_cells v_this_house_acts_rows v_this_law_kin v_this_law_season v_this_law_stack v_this_law_town (2 : Int32) p2 (0 : Int32) c_5 c_6 x_3) fun c_7 =>
Option.bind (qL (x_3 * c_7.1) (100 : Int64)) fun t_8 =>
some (t_8.toInt32, c_7.2.1, c_7.2.2.1, c_7.2.2.2.1, c_7.2.2.2.2.1, c_7.2.2.2.2.2.1, c_7.2.2.2.2.2.2.1, c_7.2.2.2.2.2.2.2)

def F_X2_byShares (v_this_house_purses_cells : Nat → Int32) (v_this_house_purses_rows : Int32) (p0 : Int32) (p1 : Int32) (p2 : Int32) (p3 : Int32) : Option (Int32) :=
Option.bind (F_X8_get 39 v_this_house_purses_cells v_this_house_purses_rows (13 : Int32) p0 ((3 : Int32) + p1)) fun c_1 =>
Option.bind (if 0 < p3 then (
Option.bind (qL (p2.toInt64 * c_1.toInt64) p3.toInt64) fun t_3 =>
some t_3.toInt32) else (
some (0 : Int32))) fun j_2 =>
some j_2

def B_X2_partOf_56 (v_this_house_merchants_rows : Int32) (v_this_house_purses_cells : Nat → Int32) (v_this_house_purses_rows : Int32) (p0 : Int32) (x_2 : Int32) (c_3 : Int32) (s_6 : Int32 × Int32) : Option ((Int32 × Int32) ⊕ (Int32 × Int32)) :=
if s_6.2 < v_this_house_merchants_rows then (
Option.bind (F_X2_byShares v_this_house_purses_cells v_this_house_purses_rows p0 s_6.2 x_2 c_3) fun c_8 =>
lt (s_6.1 - c_8) fun x_9 =>
lt (s_6.2 + (1 : Int32)) fun x_10 =>
some (Sum.inl (x_9, x_10))) else (
some (Sum.inr (s_6.1, s_6.2)))
def F_X2_partOf (v_this_house_merchants_rows : Int32) (v_this_house_purses_cells : Nat → Int32) (v_this_house_purses_rows : Int32) (p0 : Int32) (p1 : Int32) (p2 : Int32) : Option (Int32) :=
Option.bind (qI p1 (3 : Int32)) fun t_1 =>
lt (p1 - t_1) fun x_2 =>
Option.bind (F_X2_sharesOfAll v_this_house_merchants_rows v_this_house_purses_cells v_this_house_purses_rows p0) fun c_3 =>
Option.bind (F_X2_byShares v_this_house_purses_cells v_this_house_purses_rows p0 p2 x_2 c_3) fun c_4 =>
Option.bind (F_X8_get 39 v_this_house_purses_cells v_this_house_purses_rows (13 : Int32) p0 (0 : Int32)) fun c_5 =>
if p2 = c_5 then (
Option.bind (itr (B_X2_partOf_56 v_this_house_merchants_rows v_this_house_purses_cells v_this_house_purses_rows p0 x_2 c_3) FU (x_2, (0 : Int32))) fun x_7 =>
some ((t_1 + c_4) + x_7.1)) else (
some c_4)

def F_X3_agree (v_this_house_mentions_cells : Nat → Int32) (v_this_house_mentions_rows : Int32) (p0 : Int32) (p1 : Int32) (p2 : Int32) : Option (Int32) :=
Option.bind (F_X8_get 30 v_this_house_mentions_cells v_this_house_mentions_rows (3 : Int32) p0 p2) fun c_1 =>
Option.bind (F_X8_get 30 v_this_house_mentions_cells v_this_house_mentions_rows (3 : Int32) p1 p2) fun c_2 =>
Option.bind (if c_1 = (-1 : Int32) then (
some (1 : Int32)) else (
if c_2 = (-1 : Int32) then (
some (1 : Int32)) else (
if c_1 = c_2 then (
some (1 : Int32)) else (
some (0 : Int32))))) fun j_3 =>
Option.bind (bZ j_3) fun t_4 =>
some t_4

def F_X3_isOneMan (v_this_house_mentions_cells : Nat → Int32) (v_this_house_mentions_rows : Int32) (p0 : Int32) (p1 : Int32) : Option (Int32) :=
Option.bind (F_X8_get 30 v_this_house_mentions_cells v_this_house_mentions_rows (3 : Int32) p0 (2 : Int32)) fun c_1 =>
Option.bind (F_X8_get 30 v_this_house_mentions_cells v_this_house_mentions_rows (3 : Int32) p1 (2 : Int32)) fun c_2 =>
lt (c_1 - c_2) fun x_3 =>
Option.bind (F_X3_agree v_this_house_mentions_cells v_this_house_mentions_rows p0 p1 (0 : Int32)) fun c_4 =>
Option.bind (if c_4 = 0 then (
some (0 : Int32)) else (
Option.bind (F_X3_agree v_this_house_mentions_cells v_this_house_mentions_rows p0 p1 (1 : Int32)) fun c_6 =>
if c_6 = 0 then (
some (0 : Int32)) else (
if (40 : Int32) < (if 0 ≤ x_3 then x_3 else 0 - x_3) then (
some (0 : Int32)) else (
some (1 : Int32))))) fun j_5 =>
Option.bind (bZ j_5) fun t_7 =>
some t_7

def B_X3_compare_20 (v_this_house_mentions_rows : Int32) (s_1 : Int32 × (Nat → Int32)) (v_this_house_mentions_cells : Nat → Int32) (s_4 : Int32 × (Nat → Int32)) : Option ((Int32 × (Nat → Int32)) ⊕ (Int32 × (Nat → Int32))) :=
if s_4.1 < v_this_house_mentions_rows then (
Option.bind (gI s_4.2 10 s_1.1) fun t_6 =>
Option.bind (F_X3_isOneMan v_this_house_mentions_cells v_this_house_mentions_rows s_1.1 s_4.1) fun c_7 =>
Option.bind (if c_7 = 0 then (
some (0 : Int32)) else (
some ((1 : Int32) <<< (s_4.1 &&& 31)))) fun j_8 =>
Option.bind (sI s_4.2 10 s_1.1 (t_6 ||| j_8)) fun g_9 =>
lt (s_4.1 + (1 : Int32)) fun x_10 =>
some (Sum.inl (x_10, g_9))) else (
some (Sum.inr (s_4.1, s_4.2)))
def B_X3_compare_2 (v_this_house_mentions_rows : Int32) (v_this_house_mentions_cells : Nat → Int32) (s_1 : Int32 × (Nat → Int32)) : Option ((Int32 × (Nat → Int32)) ⊕ (Int32 × (Nat → Int32))) :=
if s_1.1 < (10 : Int32) then (
Option.bind (sI s_1.2 10 s_1.1 (0 : Int32)) fun g_3 =>
Option.bind (itr (B_X3_compare_20 v_this_house_mentions_rows s_1 v_this_house_mentions_cells) FU ((0 : Int32), g_3)) fun x_5 =>
lt (s_1.1 + (1 : Int32)) fun x_11 =>
some (Sum.inl (x_11, x_5.2))) else (
some (Sum.inr (s_1.1, s_1.2)))
def F_X3_compare (v_this_alike : Nat → Int32) (v_this_house_mentions_cells : Nat → Int32) (v_this_house_mentions_rows : Int32) : Option ((Nat → Int32)) :=
Option.bind (itr (B_X3_compare_2 v_this_house_mentions_rows v_this_house_mentions_cells) FU ((0 : Int32), v_this_alike)) fun x_2 =>
some x_2.2

def B_J7_fill_53178_5 (x_1 : Int32) (n_p0 : Nat) (p1 : Int32) (s_2 : Int32 × (Nat → Int32)) : Option ((Int32 × (Nat → Int32)) ⊕ (Int32 × (Nat → Int32))) :=
if s_2.1 < x_1 then (
Option.bind (sI s_2.2 n_p0 s_2.1 p1) fun g_4 =>
lt (s_2.1 + (1 : Int32)) fun x_5 =>
some (Sum.inl (x_5, g_4))) else (
some (Sum.inr (s_2.1, s_2.2)))
def F_J7_fill_53178 (n_p0 : Nat) (v_p0 : Nat → Int32) (p1 : Int32) : Option ((Nat → Int32)) :=
lt (Int32.ofNat n_p0) fun x_1 =>
Option.bind (itr (B_J7_fill_53178_5 x_1 n_p0 p1) FU ((0 : Int32), v_p0)) fun x_3 =>
some x_3.2

def F_X3_mayJoin (v_this_alike : Nat → Int32) (v_this_members : Nat → Int32) (p0 : Int32) (p1 : Int32) : Option (Int32) :=
if p1 < 0 then (
some (0 : Int32)) else (
if p1 < (10 : Int32) then (
if p0 < 0 then (
some (0 : Int32)) else (
if p0 < (10 : Int32) then (
Option.bind (gI v_this_members 10 p1) fun t_1 =>
Option.bind (if t_1 = 0 then (
some (0 : Int32)) else (
Option.bind (gI v_this_members 10 p1) fun t_3 =>
Option.bind (gI v_this_alike 10 p0) fun t_4 =>
if (t_3 &&& (t_4 ^^^ (-1 : Int32))) = 0 then (
some (1 : Int32)) else (
some (0 : Int32)))) fun j_2 =>
Option.bind (bZ j_2) fun t_5 =>
some t_5) else (
some (0 : Int32)))) else (
some (0 : Int32)))

def F_X3_joins (FS : (Nat → Int32) → Int32 → (Nat → Int32) → (Nat → Int32) → Int32 → Int32 → Option (Int32 × (Nat → Int32) × (Nat → Int32))) (v_this_alike : Nat → Int32) (v_this_house_mentions_rows : Int32) (v_this_least : Nat → Int32) (v_this_members : Nat → Int32) (p0 : Int32) (p1 : Int32) (p2 : Int32) : Option (Int32 × (Nat → Int32) × (Nat → Int32)) :=
if p1 < 0 then (
some ((0 : Int32), v_this_least, v_this_members)) else (
if p1 < (10 : Int32) then (
if p0 < 0 then (
some ((0 : Int32), v_this_least, v_this_members)) else (
if p0 < (10 : Int32) then (
Option.bind (gI v_this_members 10 p1) fun t_1 =>
Option.bind (sI v_this_members 10 p1 (t_1 ||| ((1 : Int32) <<< (p0 &&& 31)))) fun g_2 =>
Option.bind (sI v_this_least 10 p0 p1) fun g_3 =>
Option.bind (FS v_this_alike v_this_house_mentions_rows g_3 g_2 (p0 + (1 : Int32)) p2) fun c_4 =>
if c_4.1 = 0 then (
Option.bind (gI c_4.2.2 10 p1) fun t_5 =>
Option.bind (sI c_4.2.2 10 p1 (t_5 &&& (((1 : Int32) <<< (p0 &&& 31)) ^^^ (-1 : Int32)))) fun g_6 =>
some ((0 : Int32), c_4.2.1, g_6)) else (
some ((1 : Int32), c_4.2.1, c_4.2.2))) else (
some ((0 : Int32), v_this_least, v_this_members)))) else (
some ((0 : Int32), v_this_least, v_this_members)))

def B_X3_settle_46 (p0 : Int32) (v_this_alike : Nat → Int32) (FS : (Nat → Int32) → Int32 → (Nat → Int32) → (Nat → Int32) → Int32 → Int32 → Option (Int32 × (Nat → Int32) × (Nat → Int32))) (v_this_house_mentions_rows : Int32) (p1 : Int32) (s_1 : Int32 × (Nat → Int32) × (Nat → Int32)) : Option ((Int32 × (Nat → Int32) × (Nat → Int32)) ⊕ ((Int32 × (Nat → Int32) × (Nat → Int32)) ⊕ (Int32 × (Nat → Int32) × (Nat → Int32)))) :=
if s_1.1 < p0 then (
Option.bind (F_X3_mayJoin v_this_alike s_1.2.2 p0 s_1.1) fun c_4 =>
if c_4 = 0 then (
lt (s_1.1 + (1 : Int32)) fun x_5 =>
some (Sum.inl (x_5, s_1.2.1, s_1.2.2))) else (
Option.bind (F_X3_joins FS v_this_alike v_this_house_mentions_rows s_1.2.1 s_1.2.2 p0 s_1.1 p1) fun c_6 =>
if c_6.1 = 0 then (
lt (s_1.1 + (1 : Int32)) fun x_7 =>
some (Sum.inl (x_7, c_6.2.1, c_6.2.2))) else (
some (Sum.inr (Sum.inr ((1 : Int32), c_6.2.1, c_6.2.2)))))) else (
some (Sum.inr (Sum.inl (s_1.1, s_1.2.1, s_1.2.2))))
def F_X3_settle1 (FS : (Nat → Int32) → Int32 → (Nat → Int32) → (Nat → Int32) → Int32 → Int32 → Option (Int32 × (Nat → Int32) × (Nat → Int32))) (v_this_alike : Nat → Int32) (v_this_house_mentions_rows : Int32) (v_this_least : Nat → Int32) (v_this_members : Nat → Int32) (p0 : Int32) (p1 : Int32) : Option (Int32 × (Nat → Int32) × (Nat → Int32)) :=
if p0 < v_this_house_mentions_rows then (
if p0 < (10 : Int32) then (
if p0 < (10 : Int32) then (
if p0 < 0 then (
some ((0 : Int32), v_this_least, v_this_members)) else (
if p1 < 0 then (
some ((0 : Int32), v_this_least, v_this_members)) else (
Option.bind (itr (B_X3_settle_46 p0 v_this_alike FS v_this_house_mentions_rows p1) FU ((0 : Int32), v_this_least, v_this_members)) fun x_2 =>
sm x_2 (fun y_3 =>
Option.bind (if 0 < p1 then (
Option.bind (F_X3_joins FS v_this_alike v_this_house_mentions_rows y_3.2.1 y_3.2.2 p0 p0 (p1 - (1 : Int32))) fun c_9 =>
if c_9.1 = 0 then (
some ((0 : Int32), c_9.2.1, c_9.2.2)) else (
some ((1 : Int32), c_9.2.1, c_9.2.2))) else (
some ((0 : Int32), y_3.2.1, y_3.2.2))) fun j_8 =>
Option.bind (bZ j_8.1) fun t_10 =>
some (t_10, j_8.2.1, j_8.2.2)) (fun z => z)))) else (
some ((1 : Int32), v_this_least, v_this_members))) else (
some ((1 : Int32), v_this_least, v_this_members))) else (
some ((1 : Int32), v_this_least, v_this_members))

def F_X3_settle : Nat → (Nat → Int32) → Int32 → (Nat → Int32) → (Nat → Int32) → Int32 → Int32 → Option (Int32 × (Nat → Int32) × (Nat → Int32))
  | 0 => fun _ _ _ _ _ _ => none
  | k + 1 => F_X3_settle1 (F_X3_settle k)

def B_X3_tellApart_6 (c_1 : (Nat → Int32)) (v_this_house_mentions_rows : Int32) (s_2 : Int32 × (Nat → Int32) × (Nat → Int32)) : Option ((Int32 × (Nat → Int32) × (Nat → Int32)) ⊕ ((Int32 × (Nat → Int32) × (Nat → Int32)) ⊕ (Int32 × (Nat → Int32) × (Nat → Int32) × (Nat → Int32)))) :=
if (10 : Int32) < s_2.1 then (
some (Sum.inr (Sum.inl (s_2.1, s_2.2.1, s_2.2.2)))) else (
Option.bind (F_J7_fill_53178 10 s_2.2.2 (0 : Int32)) fun c_5 =>
Option.bind (F_X3_settle 12 c_1 v_this_house_mentions_rows s_2.2.1 c_5 (0 : Int32) s_2.1) fun c_6 =>
if c_6.1 = 0 then (
lt (s_2.1 + (1 : Int32)) fun x_7 =>
some (Sum.inl (x_7, c_6.2.1, c_6.2.2))) else (
some (Sum.inr (Sum.inr (s_2.1, c_1, c_6.2.1, c_6.2.2)))))
def F_X3_tellApart (v_this_alike : Nat → Int32) (v_this_house_mentions_cells : Nat → Int32) (v_this_house_mentions_rows : Int32) (v_this_least : Nat → Int32) (v_this_members : Nat → Int32) : Option (Int32 × (Nat → Int32) × (Nat → Int32) × (Nat → Int32)) :=
Option.bind (F_X3_compare v_this_alike v_this_house_mentions_cells v_this_house_mentions_rows) fun c_1 =>
Option.bind (itr (B_X3_tellApart_6 c_1 v_this_house_mentions_rows) FU ((0 : Int32), v_this_least, v_this_members)) fun x_3 =>
sm x_3 (fun y_4 =>
some ((10 : Int32), c_1, y_4.2.1, y_4.2.2)) (fun z => z)

def F_X3_leastOf (v_this_least : Nat → Int32) (p0 : Int32) : Option (Int32) :=
Option.bind (if p0 < 0 then (
some (-1 : Int32)) else (
if p0 < (10 : Int32) then (
Option.bind (gI v_this_least 10 p0) fun t_2 =>
some t_2) else (
some (-1 : Int32)))) fun j_1 =>
some j_1

def F_X4_book (v_this_balances : Nat → Int64) (p0 : Int32) (p1 : Int64) : Option ((Nat → Int64)) :=
Option.bind (if p0 < 0 then (
some v_this_balances) else (
if p0 < (10 : Int32) then (
Option.bind (gL v_this_balances 10 p0) fun t_2 =>
Option.bind (sL v_this_balances 10 p0 (t_2 + p1)) fun g_3 =>
some g_3) else (
some v_this_balances))) fun j_1 =>
some j_1

def F_X4_pairOf (p0 : Int32) (p1 : Int32) : Option (Int32) :=
Option.bind (if p0 < 0 then (
some (0 : Int32)) else (
if p0 < (10 : Int32) then (
if p1 < 0 then (
some (0 : Int32)) else (
if p1 < (10 : Int32) then (
some (1 : Int32)) else (
some (0 : Int32)))) else (
some (0 : Int32)))) fun j_1 =>
Option.bind (if j_1 = 0 then (
some (-1 : Int32)) else (
some ((p0 * (10 : Int32)) + p1))) fun j_2 =>
some j_2

def B_X4_weigh_18 (v_this_house_debts_rows : Int32) (v_this_house_acts_cells : Nat → Int32) (v_this_house_acts_rows : Int32) (v_this_house_debts_cells : Nat → Int32) (v_this_house_merchants_cells : Nat → Int32) (v_this_house_merchants_rows : Int32) (v_this_house_payments_cells : Nat → Int32) (v_this_house_payments_rows : Int32) (p0 : Int32) (s_3 : Int32 × (Nat → Int64) × Int64 × Int32 × Int32 × Int32 × Int32 × (Nat → Int64) × Int32 × (Nat → Int64) × (Nat → Int64)) : Option ((Int32 × (Nat → Int64) × Int64 × Int32 × Int32 × Int32 × Int32 × (Nat → Int64) × Int32 × (Nat → Int64) × (Nat → Int64)) ⊕ (Int32 × (Nat → Int64) × Int64 × Int32 × Int32 × Int32 × Int32 × (Nat → Int64) × Int32 × (Nat → Int64) × (Nat → Int64))) :=
if s_3.1 < v_this_house_debts_rows then (
Option.bind (F_X2_left v_this_house_acts_cells v_this_house_acts_rows v_this_house_debts_cells v_this_house_debts_rows v_this_house_merchants_cells v_this_house_merchants_rows v_this_house_payments_cells v_this_house_payments_rows s_3.2.2.1 s_3.2.2.2.1 s_3.2.2.2.2.1 s_3.2.2.2.2.2.1 s_3.2.2.2.2.2.2.1 s_3.2.2.2.2.2.2.2.1 s_3.2.2.2.2.2.2.2.2.1 s_3.2.2.2.2.2.2.2.2.2.1 s_3.1 p0) fun c_5 =>
Option.bind (F_X8_get 280 v_this_house_debts_cells v_this_house_debts_rows (7 : Int32) s_3.1 (0 : Int32)) fun c_6 =>
Option.bind (F_X8_get 280 v_this_house_debts_cells v_this_house_debts_rows (7 : Int32) s_3.1 (1 : Int32)) fun c_7 =>
Option.bind (F_X4_book s_3.2.1 c_6 c_5.1) fun c_8 =>
Option.bind (F_X4_book c_8 c_7 (-c_5.1)) fun c_9 =>
Option.bind (F_X4_pairOf c_7 c_6) fun c_10 =>
Option.bind (if c_10 < 0 then (
some s_3.2.2.2.2.2.2.2.2.2.2) else (
if c_10 < (100 : Int32) then (
Option.bind (gL s_3.2.2.2.2.2.2.2.2.2.2 100 c_10) fun t_12 =>
Option.bind (sL s_3.2.2.2.2.2.2.2.2.2.2 100 c_10 (t_12 + c_5.1)) fun g_13 =>
some g_13) else (
some s_3.2.2.2.2.2.2.2.2.2.2))) fun j_11 =>
lt (s_3.1 + (1 : Int32)) fun x_14 =>
some (Sum.inl (x_14, c_9, c_5.2.1, c_5.2.2.1, c_5.2.2.2.1, c_5.2.2.2.2.1, c_5.2.2.2.2.2.1, c_5.2.2.2.2.2.2.1, c_5.2.2.2.2.2.2.2.1, c_5.2.2.2.2.2.2.2.2, j_11))) else (
some (Sum.inr (s_3.1, s_3.2.1, s_3.2.2.1, s_3.2.2.2.1, s_3.2.2.2.2.1, s_3.2.2.2.2.2.1, s_3.2.2.2.2.2.2.1, s_3.2.2.2.2.2.2.2.1, s_3.2.2.2.2.2.2.2.2.1, s_3.2.2.2.2.2.2.2.2.2.1, s_3.2.2.2.2.2.2.2.2.2.2)))
def F_X4_weigh (v_this_balances : Nat → Int64) (v_this_house_acts_cells : Nat → Int32) (v_this_house_acts_rows : Int32) (v_this_house_debts_cells : Nat → Int32) (v_this_house_debts_rows : Int32) (v_this_house_merchants_cells : Nat → Int32) (v_this_house_merchants_rows : Int32) (v_this_house_payments_cells : Nat → Int32) (v_this_house_payments_rows : Int32) (v_this_ledger_law_about : Int64) (v_this_ledger_law_gate : Int32) (v_this_ledger_law_height : Int32) (v_this_ledger_law_kin : Int32) (v_this_ledger_law_season : Int32) (v_this_ledger_law_stack : Nat → Int64) (v_this_ledger_law_town : Int32) (v_this_ledger_paid : Nat → Int64) (v_this_pairs : Nat → Int64) (p0 : Int32) : Option ((Nat → Int64) × Int64 × Int32 × Int32 × Int32 × Int32 × (Nat → Int64) × Int32 × (Nat → Int64) × (Nat → Int64)) :=
Option.bind (F_J7_fill_d0a16 10 v_this_balances (0 : Int64)) fun c_1 =>
Option.bind (F_J7_fill_d0a16 100 v_this_pairs (0 : Int64)) fun c_2 =>
Option.bind (itr (B_X4_weigh_18 v_this_house_debts_rows v_this_house_acts_cells v_this_house_acts_rows v_this_house_debts_cells v_this_house_merchants_cells v_this_house_merchants_rows v_this_house_payments_cells v_this_house_payments_rows p0) FU ((0 : Int32), c_1, v_this_ledger_law_about, v_this_ledger_law_gate, v_this_ledger_law_height, v_this_ledger_law_kin, v_this_ledger_law_season, v_this_ledger_law_stack, v_this_ledger_law_town, v_this_ledger_paid, c_2)) fun x_4 =>
some (x_4.2.1, x_4.2.2.1, x_4.2.2.2.1, x_4.2.2.2.2.1, x_4.2.2.2.2.2.1, x_4.2.2.2.2.2.2.1, x_4.2.2.2.2.2.2.2.1, x_4.2.2.2.2.2.2.2.2.1, x_4.2.2.2.2.2.2.2.2.2.1, x_4.2.2.2.2.2.2.2.2.2.2)

def F_X4_isOwing (v_this_pairs : Nat → Int64) (p0 : Int32) (p1 : Int32) : Option (Int32) :=
Option.bind (F_X4_pairOf p0 p1) fun c_1 =>
Option.bind (if c_1 < 0 then (
some (0 : Int32)) else (
if c_1 < (100 : Int32) then (
Option.bind (gL v_this_pairs 100 c_1) fun t_3 =>
if (0 : Int64) < t_3 then (
some (1 : Int32)) else (
some (0 : Int32))) else (
some (0 : Int32)))) fun j_2 =>
Option.bind (bZ j_2) fun t_4 =>
some t_4

def F_X4_of (v_this_balances : Nat → Int64) (p0 : Int32) : Option (Int64) :=
Option.bind (if p0 < 0 then (
some (0 : Int64)) else (
if p0 < (10 : Int32) then (
Option.bind (gL v_this_balances 10 p0) fun t_2 =>
some t_2) else (
some (0 : Int64)))) fun j_1 =>
some j_1

def B_X4_gatherUneven_4 (v_this_balances : Nat → Int64) (s_1 : Int32 × Int32 × (Nat → Int64)) : Option ((Int32 × Int32 × (Nat → Int64)) ⊕ (Int32 × Int32 × (Nat → Int64))) :=
if s_1.2.1 < (10 : Int32) then (
Option.bind (gL v_this_balances 10 s_1.2.1) fun t_3 =>
Option.bind (if t_3 = (0 : Int64) then (
some (s_1.1, s_1.2.2)) else (
if s_1.1 < (10 : Int32) then (
Option.bind (gL v_this_balances 10 s_1.2.1) fun t_5 =>
Option.bind (sL s_1.2.2 10 s_1.1 t_5) fun g_6 =>
lt (s_1.1 + (1 : Int32)) fun x_7 =>
some (x_7, g_6)) else (
some (s_1.1, s_1.2.2)))) fun j_4 =>
lt (s_1.2.1 + (1 : Int32)) fun x_8 =>
some (Sum.inl (j_4.1, x_8, j_4.2))) else (
some (Sum.inr (s_1.1, s_1.2.1, s_1.2.2)))
def F_X4_gatherUneven (v_this_balances : Nat → Int64) (v_this_uneven : Nat → Int64) : Option (Int32 × (Nat → Int64)) :=
Option.bind (itr (B_X4_gatherUneven_4 v_this_balances) FU ((0 : Int32), (0 : Int32), v_this_uneven)) fun x_2 =>
some (x_2.1, x_2.2.2)

def B_X4_weighSet_28 (p1 : Int32) (p0 : Int32) (v_this_uneven : Nat → Int64) (v_this_sets : Nat → Int32) (s_1 : Int32 × Int32 × (Nat → Int64)) : Option ((Int32 × Int32 × (Nat → Int64)) ⊕ (Int32 × Int32 × (Nat → Int64))) :=
if s_1.2.1 < p1 then (
if s_1.2.1 < (10 : Int32) then (
lt (p0 &&& (((1 : Int32) <<< (s_1.2.1 &&& 31)) ^^^ (-1 : Int32))) fun x_3 =>
Option.bind (if x_3 < 0 then (
some (s_1.1, s_1.2.2)) else (
if x_3 < p0 then (
Option.bind (gL s_1.2.2 1024 x_3) fun t_5 =>
Option.bind (gL v_this_uneven 10 s_1.2.1) fun t_6 =>
Option.bind (sL s_1.2.2 1024 p0 (t_5 + t_6)) fun g_7 =>
Option.bind (gI v_this_sets 1024 x_3) fun t_8 =>
lt (if s_1.1 < t_8 then t_8 else s_1.1) fun x_9 =>
some (x_9, g_7)) else (
some (s_1.1, s_1.2.2)))) fun j_4 =>
lt (s_1.2.1 + (1 : Int32)) fun x_10 =>
some (Sum.inl (j_4.1, x_10, j_4.2))) else (
some (Sum.inr (s_1.1, s_1.2.1, s_1.2.2)))) else (
some (Sum.inr (s_1.1, s_1.2.1, s_1.2.2)))
def F_X4_weighSet (v_this_sets : Nat → Int32) (v_this_sums : Nat → Int64) (v_this_uneven : Nat → Int64) (p0 : Int32) (p1 : Int32) : Option ((Nat → Int32) × (Nat → Int64)) :=
if p0 < 0 then (
some (v_this_sets, v_this_sums)) else (
if p0 < (1024 : Int32) then (
if p0 < (1024 : Int32) then (
Option.bind (itr (B_X4_weighSet_28 p1 p0 v_this_uneven v_this_sets) FU ((0 : Int32), (0 : Int32), v_this_sums)) fun x_2 =>
Option.bind (gL x_2.2.2 1024 p0) fun t_11 =>
Option.bind (if t_11 = (0 : Int64) then (
some (1 : Int32)) else (
some (0 : Int32))) fun j_12 =>
Option.bind (sI v_this_sets 1024 p0 (x_2.1 + j_12)) fun g_13 =>
some (g_13, x_2.2.2)) else (
some (v_this_sets, v_this_sums))) else (
some (v_this_sets, v_this_sums)))

def B_X4_fewestPayments_13 (x_2 : Int32) (c_1 : Int32 × (Nat → Int64)) (s_3 : Int32 × (Nat → Int32) × (Nat → Int64)) : Option ((Int32 × (Nat → Int32) × (Nat → Int64)) ⊕ (Int32 × (Nat → Int32) × (Nat → Int64))) :=
if x_2 < s_3.1 then (
some (Sum.inr (s_3.1, s_3.2.1, s_3.2.2))) else (
Option.bind (F_X4_weighSet s_3.2.1 s_3.2.2 c_1.2 s_3.1 c_1.1) fun c_5 =>
lt (s_3.1 + (1 : Int32)) fun x_6 =>
some (Sum.inl (x_6, c_5.1, c_5.2)))
def F_X4_fewestPayments (v_this_balances : Nat → Int64) (v_this_sets : Nat → Int32) (v_this_sums : Nat → Int64) (v_this_uneven : Nat → Int64) : Option (Int32 × (Nat → Int32) × (Nat → Int64) × (Nat → Int64)) :=
Option.bind (F_X4_gatherUneven v_this_balances v_this_uneven) fun c_1 =>
lt (((1 : Int32) <<< (c_1.1 &&& 31)) - (1 : Int32)) fun x_2 =>
Option.bind (itr (B_X4_fewestPayments_13 x_2 c_1) FU ((1 : Int32), v_this_sets, v_this_sums)) fun x_4 =>
Option.bind (if x_2 < 0 then (
some (0 : Int32)) else (
if x_2 < (1024 : Int32) then (
Option.bind (gI x_4.2.1 1024 x_2) fun t_8 =>
some (c_1.1 - t_8)) else (
some (0 : Int32)))) fun j_7 =>
some (j_7, x_4.2.1, x_4.2.2, c_1.2)

def B_X4_isNear_17 (v_this_steps : Nat → Int32) (p2 : Int32) (v_this_pairs : Nat → Int64) (p0 : Int32) (s_2 : Int32) : Option ((Int32) ⊕ ((Int32) ⊕ (Int32))) :=
if s_2 < (10 : Int32) then (
if s_2 < 0 then (
lt (s_2 + (1 : Int32)) fun x_5 =>
some (Sum.inl x_5)) else (
Option.bind (gI v_this_steps 10 s_2) fun t_6 =>
if t_6 = (p2 - (1 : Int32)) then (
Option.bind (F_X4_isOwing v_this_pairs p0 s_2) fun c_8 =>
if c_8 = 0 then (
lt (s_2 + (1 : Int32)) fun x_9 =>
some (Sum.inl x_9)) else (
some (Sum.inr (Sum.inr (1 : Int32))))) else (
lt (s_2 + (1 : Int32)) fun x_7 =>
some (Sum.inl x_7)))) else (
some (Sum.inr (Sum.inl s_2)))
def F_X4_isNear (v_this_pairs : Nat → Int64) (v_this_steps : Nat → Int32) (p0 : Int32) (p1 : Int32) (p2 : Int32) : Option (Int32) :=
if p2 = (1 : Int32) then (
Option.bind (F_X4_isOwing v_this_pairs p0 p1) fun c_10 =>
Option.bind (bZ c_10) fun t_11 =>
some t_11) else (
lt (p1 + (1 : Int32)) fun x_1 =>
Option.bind (itr (B_X4_isNear_17 v_this_steps p2 v_this_pairs p0) FU x_1) fun x_3 =>
sm x_3 (fun y_4 =>
some (0 : Int32)) (fun z => z))

def B_X4_lengthFrom_23 (v_this_pairs : Nat → Int64) (p0 : Int32) (s_2 : Int32 × (Nat → Int32)) (s_5 : Int32 × (Nat → Int32)) : Option ((Int32 × (Nat → Int32)) ⊕ (Int32 × (Nat → Int32))) :=
if s_5.1 < (10 : Int32) then (
Option.bind (if s_5.1 < 0 then (
some s_5.2) else (
Option.bind (gI s_5.2 10 s_5.1) fun t_8 =>
if t_8 = 0 then (
Option.bind (F_X4_isNear v_this_pairs s_5.2 s_5.1 p0 s_2.1) fun c_9 =>
if c_9 = 0 then (
some s_5.2) else (
Option.bind (sI s_5.2 10 s_5.1 s_2.1) fun g_10 =>
some g_10)) else (
some s_5.2))) fun j_7 =>
lt (s_5.1 + (1 : Int32)) fun x_11 =>
some (Sum.inl (x_11, j_7))) else (
some (Sum.inr (s_5.1, s_5.2)))
def B_X4_lengthFrom_10 (p0 : Int32) (v_this_pairs : Nat → Int64) (s_2 : Int32 × (Nat → Int32)) : Option ((Int32 × (Nat → Int32)) ⊕ (Int32 × (Nat → Int32))) :=
if s_2.1 < (10 : Int32) then (
lt (p0 + (1 : Int32)) fun x_4 =>
Option.bind (itr (B_X4_lengthFrom_23 v_this_pairs p0 s_2) FU (x_4, s_2.2)) fun x_6 =>
lt (s_2.1 + (1 : Int32)) fun x_12 =>
some (Sum.inl (x_12, x_6.2))) else (
some (Sum.inr (s_2.1, s_2.2)))
def B_X4_lengthFrom_80 (x_3 : Int32 × (Nat → Int32)) (v_this_pairs : Nat → Int64) (p0 : Int32) (s_14 : Int32 × Int32) : Option ((Int32 × Int32) ⊕ (Int32 × Int32)) :=
if s_14.2 < (10 : Int32) then (
Option.bind (if s_14.2 < 0 then (
some s_14.1) else (
Option.bind (gI x_3.2 10 s_14.2) fun t_17 =>
if 0 < t_17 then (
Option.bind (F_X4_isOwing v_this_pairs p0 s_14.2) fun c_18 =>
if c_18 = 0 then (
some s_14.1) else (
Option.bind (if s_14.1 = 0 then (
Option.bind (gI x_3.2 10 s_14.2) fun t_21 =>
some (t_21 + (1 : Int32))) else (
Option.bind (gI x_3.2 10 s_14.2) fun t_20 =>
some (if (t_20 + (1 : Int32)) < s_14.1 then (t_20 + (1 : Int32)) else s_14.1))) fun j_19 =>
some j_19)) else (
some s_14.1))) fun j_16 =>
lt (s_14.2 + (1 : Int32)) fun x_22 =>
some (Sum.inl (j_16, x_22))) else (
some (Sum.inr (s_14.1, s_14.2)))
def F_X4_lengthFrom (v_this_pairs : Nat → Int64) (v_this_steps : Nat → Int32) (p0 : Int32) : Option (Int32 × (Nat → Int32)) :=
Option.bind (F_J7_fill_53178 10 v_this_steps (0 : Int32)) fun c_1 =>
Option.bind (itr (B_X4_lengthFrom_10 p0 v_this_pairs) FU ((1 : Int32), c_1)) fun x_3 =>
lt (p0 + (1 : Int32)) fun x_13 =>
Option.bind (itr (B_X4_lengthFrom_80 x_3 v_this_pairs p0) FU ((0 : Int32), x_13)) fun x_15 =>
some (x_15.1, x_3.2)

def B_X4_firstStep_5 (v_this_steps : Nat → Int32) (p2 : Int32) (v_this_pairs : Nat → Int64) (p0 : Int32) (s_2 : Int32) : Option ((Int32) ⊕ ((Int32) ⊕ (Int32))) :=
if s_2 < (10 : Int32) then (
if s_2 < 0 then (
lt (s_2 + (1 : Int32)) fun x_5 =>
some (Sum.inl x_5)) else (
Option.bind (gI v_this_steps 10 s_2) fun t_6 =>
if t_6 = p2 then (
Option.bind (F_X4_isOwing v_this_pairs p0 s_2) fun c_8 =>
if c_8 = 0 then (
lt (s_2 + (1 : Int32)) fun x_9 =>
some (Sum.inl x_9)) else (
some (Sum.inr (Sum.inr s_2)))) else (
lt (s_2 + (1 : Int32)) fun x_7 =>
some (Sum.inl x_7)))) else (
some (Sum.inr (Sum.inl s_2)))
def F_X4_firstStep (v_this_pairs : Nat → Int64) (v_this_steps : Nat → Int32) (p0 : Int32) (p1 : Int32) (p2 : Int32) : Option (Int32) :=
lt (p1 + (1 : Int32)) fun x_1 =>
Option.bind (itr (B_X4_firstStep_5 v_this_steps p2 v_this_pairs p0) FU x_1) fun x_3 =>
sm x_3 (fun y_4 =>
some p1) (fun z => z)

def B_X4_follow_5 (p1 : Int32) (v_this_pairs : Nat → Int64) (v_this_steps : Nat → Int32) (p0 : Int32) (s_1 : Int32 × Int32 × (Nat → Int32)) : Option ((Int32 × Int32 × (Nat → Int32)) ⊕ (Int32 × Int32 × (Nat → Int32))) :=
if s_1.2.1 < p1 then (
if s_1.2.1 < (10 : Int32) then (
Option.bind (sI s_1.2.2 10 s_1.2.1 s_1.1) fun g_3 =>
Option.bind (F_X4_firstStep v_this_pairs v_this_steps s_1.1 p0 ((p1 - s_1.2.1) - (1 : Int32))) fun c_4 =>
lt (s_1.2.1 + (1 : Int32)) fun x_5 =>
some (Sum.inl (c_4, x_5, g_3))) else (
some (Sum.inr (s_1.1, s_1.2.1, s_1.2.2)))) else (
some (Sum.inr (s_1.1, s_1.2.1, s_1.2.2)))
def F_X4_follow (v_this_pairs : Nat → Int64) (v_this_ring : Nat → Int32) (v_this_steps : Nat → Int32) (p0 : Int32) (p1 : Int32) : Option ((Nat → Int32)) :=
Option.bind (itr (B_X4_follow_5 p1 v_this_pairs v_this_steps p0) FU (p0, (0 : Int32), v_this_ring)) fun x_2 =>
some x_2.2.2

def J_X4_layRing_4_37 (v_this_pairs : Nat → Int64) (s_1 : Int32 × Int32 × (Nat → Int32) × (Nat → Int32)) (c_3 : Int32 × (Nat → Int32)) (v_5 : Unit) : Option (Int32 × (Nat → Int32)) :=
Option.bind (F_X4_follow v_this_pairs s_1.2.2.1 c_3.2 s_1.2.1 c_3.1) fun c_6 =>
some (c_3.1, c_6)
def B_X4_layRing_4 (v_this_house_merchants_rows : Int32) (v_this_pairs : Nat → Int64) (s_1 : Int32 × Int32 × (Nat → Int32) × (Nat → Int32)) : Option ((Int32 × Int32 × (Nat → Int32) × (Nat → Int32)) ⊕ (Int32 × Int32 × (Nat → Int32) × (Nat → Int32))) :=
if s_1.2.1 < v_this_house_merchants_rows then (
Option.bind (F_X4_lengthFrom v_this_pairs s_1.2.2.2 s_1.2.1) fun c_3 =>
Option.bind (if 0 < c_3.1 then (
if s_1.1 = 0 then (
J_X4_layRing_4_37 v_this_pairs s_1 c_3 ()) else (
if c_3.1 < s_1.1 then (
J_X4_layRing_4_37 v_this_pairs s_1 c_3 ()) else (
some (s_1.1, s_1.2.2.1)))) else (
some (s_1.1, s_1.2.2.1))) fun j_4 =>
lt (s_1.2.1 + (1 : Int32)) fun x_7 =>
some (Sum.inl (j_4.1, x_7, j_4.2, c_3.2))) else (
some (Sum.inr (s_1.1, s_1.2.1, s_1.2.2.1, s_1.2.2.2)))
def F_X4_layRing (v_this_house_merchants_rows : Int32) (v_this_pairs : Nat → Int64) (v_this_ring : Nat → Int32) (v_this_steps : Nat → Int32) : Option (Int32 × (Nat → Int32) × (Nat → Int32)) :=
Option.bind (itr (B_X4_layRing_4 v_this_house_merchants_rows v_this_pairs) FU ((0 : Int32), (0 : Int32), v_this_ring, v_this_steps)) fun x_2 =>
some (x_2.1, x_2.2.2.1, x_2.2.2.2)

def F_X4_inRing (v_this_ring : Nat → Int32) (p0 : Int32) : Option (Int32) :=
Option.bind (if p0 < 0 then (
some (-1 : Int32)) else (
if p0 < (10 : Int32) then (
Option.bind (gI v_this_ring 10 p0) fun t_2 =>
some t_2) else (
some (-1 : Int32)))) fun j_1 =>
some j_1

def B_X9_leftByGates_21 (v_this_house_gates_rows : Int32) (v_this_house_gates_cells : Nat → Int32) (c_1 : Int32) (v_this_house_acts_cells : Nat → Int32) (v_this_house_acts_rows : Int32) (p2 : Int32) (s_2 : Int64 × Int32 × Int64 × Int32 × Int32 × Int32 × Int32 × (Nat → Int64) × Int32) : Option ((Int64 × Int32 × Int64 × Int32 × Int32 × Int32 × Int32 × (Nat → Int64) × Int32) ⊕ (Int64 × Int32 × Int64 × Int32 × Int32 × Int32 × Int32 × (Nat → Int64) × Int32)) :=
if s_2.2.1 < v_this_house_gates_rows then (
Option.bind (F_X8_get 6 v_this_house_gates_cells v_this_house_gates_rows (1 : Int32) s_2.2.1 (0 : Int32)) fun c_4 =>
Option.bind (if c_1 = c_4 then (
some (1 : Int32)) else (
some (0 : Int32))) fun j_5 =>
Option.bind (F_X1_said s_2.2.2.1 s_2.2.2.2.1 s_2.2.2.2.2.1 v_this_house_acts_cells v_this_house_acts_rows s_2.2.2.2.2.2.1 s_2.2.2.2.2.2.2.1 s_2.2.2.2.2.2.2.2.1 s_2.2.2.2.2.2.2.2.2 (0 : Int32) p2 s_2.2.1 j_5 c_4 s_2.1) fun c_6 =>
Option.bind (qL (s_2.1 * c_6.1) (100 : Int64)) fun t_7 =>
lt (s_2.1 - t_7) fun x_8 =>
lt (s_2.2.1 + (1 : Int32)) fun x_9 =>
some (Sum.inl (x_8, x_9, c_6.2.1, c_6.2.2.1, c_6.2.2.2.1, c_6.2.2.2.2.1, c_6.2.2.2.2.2.1, c_6.2.2.2.2.2.2.1, c_6.2.2.2.2.2.2.2))) else (
some (Sum.inr (s_2.1, s_2.2.1, s_2.2.2.1, s_2.2.2.2.1, s_2.2.2.2.2.1, s_2.2.2.2.2.2.1, s_2.2.2.2.2.2.2.1, s_2.2.2.2.2.2.2.2.1, s_2.2.2.2.2.2.2.2.2)))
def F_X9_leftByGates (v_this_house_acts_cells : Nat → Int32) (v_this_house_acts_rows : Int32) (v_this_house_gates_cells : Nat → Int32) (v_this_house_gates_rows : Int32) (v_this_house_merchants_cells : Nat → Int32) (v_this_house_merchants_rows : Int32) (v_this_law_about : Int64) (v_this_law_gate : Int32) (v_this_law_height : Int32) (v_this_law_kin : Int32) (v_this_law_season : Int32) (v_this_law_stack : Nat → Int64) (v_this_law_town : Int32) (p0 : Int32) (p1 : Int32) (p2 : Int32) : Option (Int32 × Int64 × Int32 × Int32 × Int32 × Int32 × (Nat → Int64) × Int32) :=
Option.bind (F_X8_get 20 v_this_house_merchants_cells v_this_house_merchants_rows (2 : Int32) p0 (1 : Int32)) fun c_1 =>
Option.bind (itr (B_X9_leftByGates_21 v_this_house_gates_rows v_this_house_gates_cells c_1 v_this_house_acts_cells v_this_house_acts_rows p2) FU (p1.toInt64, (0 : Int32), v_this_law_about, v_this_law_gate, v_this_law_height, v_this_law_kin, v_this_law_season, v_this_law_stack, v_this_law_town)) fun x_3 =>
some (x_3.1.toInt32, x_3.2.2.1, x_3.2.2.2.1, x_3.2.2.2.2.1, x_3.2.2.2.2.2.1, x_3.2.2.2.2.2.2.1, x_3.2.2.2.2.2.2.2.1, x_3.2.2.2.2.2.2.2.2)

def B_X5_setSilver_3 (v_this_house_prices_cells : Nat → Int32) (v_this_house_prices_rows : Int32) (p2 : Int64) (v_this_house_loads_cells : Nat → Int32) (v_this_house_loads_rows : Int32) (p0 : Int32) (p1 : Int32) (s_1 : Int32 × (Nat → Int64)) : Option ((Int32 × (Nat → Int64)) ⊕ (Int32 × (Nat → Int64))) :=
if s_1.1 < (3 : Int32) then (
Option.bind (F_X8_get 3 v_this_house_prices_cells v_this_house_prices_rows (3 : Int32) (0 : Int32) s_1.1) fun c_3 =>
Option.bind (qL (p2 * c_3.toInt64) (100 : Int64)) fun t_4 =>
Option.bind (F_X8_get 18 v_this_house_loads_cells v_this_house_loads_rows (3 : Int32) p0 (2 : Int32)) fun c_5 =>
lt (t_4 - c_5.toInt64) fun x_6 =>
lt ((((p0 * (3 : Int32)) + p1) * (3 : Int32)) + s_1.1) fun x_7 =>
Option.bind (if x_7 < 0 then (
some s_1.2) else (
if x_7 < (54 : Int32) then (
Option.bind (if p1 = (2 : Int32) then (
some (0 : Int64)) else (
some x_6)) fun j_9 =>
Option.bind (sL s_1.2 54 x_7 j_9) fun g_10 =>
some g_10) else (
some s_1.2))) fun j_8 =>
lt (s_1.1 + (1 : Int32)) fun x_11 =>
some (Sum.inl (x_11, j_8))) else (
some (Sum.inr (s_1.1, s_1.2)))
def F_X5_setSilver (v_this_house_loads_cells : Nat → Int32) (v_this_house_loads_rows : Int32) (v_this_house_prices_cells : Nat → Int32) (v_this_house_prices_rows : Int32) (v_this_silver : Nat → Int64) (p0 : Int32) (p1 : Int32) (p2 : Int64) : Option ((Nat → Int64)) :=
Option.bind (itr (B_X5_setSilver_3 v_this_house_prices_cells v_this_house_prices_rows p2 v_this_house_loads_cells v_this_house_loads_rows p0 p1) FU ((0 : Int32), v_this_silver)) fun x_2 =>
some x_2.2

def F_X9_leftByLuck (v_this_house_narrow : Int32) (p0 : Int32) : Option (Int32) :=
Option.bind (if 0 < v_this_house_narrow then (
Option.bind (qL (p0.toInt64 * ((v_this_house_narrow - (1 : Int32)).toInt64)) v_this_house_narrow.toInt64) fun t_2 =>
some t_2.toInt32) else (
some (0 : Int32))) fun j_1 =>
some j_1

def B_X5_value_2 (v_this_house_loads_rows : Int32) (v_this_house_loads_cells : Nat → Int32) (v_this_house_acts_cells : Nat → Int32) (v_this_house_acts_rows : Int32) (v_this_house_gates_cells : Nat → Int32) (v_this_house_gates_rows : Int32) (v_this_house_merchants_cells : Nat → Int32) (v_this_house_merchants_rows : Int32) (p0 : Int32) (v_this_house_prices_cells : Nat → Int32) (v_this_house_prices_rows : Int32) (v_this_house_narrow : Int32) (s_1 : Int32 × (Nat → Int64) × Int64 × Int32 × Int32 × Int32 × Int32 × (Nat → Int64) × Int32) : Option ((Int32 × (Nat → Int64) × Int64 × Int32 × Int32 × Int32 × Int32 × (Nat → Int64) × Int32) ⊕ (Int32 × (Nat → Int64) × Int64 × Int32 × Int32 × Int32 × Int32 × (Nat → Int64) × Int32)) :=
if s_1.1 < v_this_house_loads_rows then (
Option.bind (F_X8_get 18 v_this_house_loads_cells v_this_house_loads_rows (3 : Int32) s_1.1 (0 : Int32)) fun c_3 =>
Option.bind (F_X8_get 18 v_this_house_loads_cells v_this_house_loads_rows (3 : Int32) s_1.1 (1 : Int32)) fun c_4 =>
Option.bind (F_X9_leftByGates v_this_house_acts_cells v_this_house_acts_rows v_this_house_gates_cells v_this_house_gates_rows v_this_house_merchants_cells v_this_house_merchants_rows s_1.2.2.1 s_1.2.2.2.1 s_1.2.2.2.2.1 s_1.2.2.2.2.2.1 s_1.2.2.2.2.2.2.1 s_1.2.2.2.2.2.2.2.1 s_1.2.2.2.2.2.2.2.2 c_3 c_4 p0) fun c_5 =>
Option.bind (F_X5_setSilver v_this_house_loads_cells v_this_house_loads_rows v_this_house_prices_cells v_this_house_prices_rows s_1.2.1 s_1.1 (0 : Int32) c_5.1.toInt64) fun c_6 =>
Option.bind (F_X9_leftByLuck v_this_house_narrow c_4) fun c_7 =>
Option.bind (F_X5_setSilver v_this_house_loads_cells v_this_house_loads_rows v_this_house_prices_cells v_this_house_prices_rows c_6 s_1.1 (1 : Int32) c_7.toInt64) fun c_8 =>
Option.bind (F_X5_setSilver v_this_house_loads_cells v_this_house_loads_rows v_this_house_prices_cells v_this_house_prices_rows c_8 s_1.1 (2 : Int32) (0 : Int64)) fun c_9 =>
lt (s_1.1 + (1 : Int32)) fun x_10 =>
some (Sum.inl (x_10, c_9, c_5.2.1, c_5.2.2.1, c_5.2.2.2.1, c_5.2.2.2.2.1, c_5.2.2.2.2.2.1, c_5.2.2.2.2.2.2.1, c_5.2.2.2.2.2.2.2))) else (
some (Sum.inr (s_1.1, s_1.2.1, s_1.2.2.1, s_1.2.2.2.1, s_1.2.2.2.2.1, s_1.2.2.2.2.2.1, s_1.2.2.2.2.2.2.1, s_1.2.2.2.2.2.2.2.1, s_1.2.2.2.2.2.2.2.2)))
def F_X5_value (v_this_house_acts_cells : Nat → Int32) (v_this_house_acts_rows : Int32) (v_this_house_gates_cells : Nat → Int32) (v_this_house_gates_rows : Int32) (v_this_house_loads_cells : Nat → Int32) (v_this_house_loads_rows : Int32) (v_this_house_merchants_cells : Nat → Int32) (v_this_house_merchants_rows : Int32) (v_this_house_narrow : Int32) (v_this_house_prices_cells : Nat → Int32) (v_this_house_prices_rows : Int32) (v_this_silver : Nat → Int64) (v_this_ways_law_about : Int64) (v_this_ways_law_gate : Int32) (v_this_ways_law_height : Int32) (v_this_ways_law_kin : Int32) (v_this_ways_law_season : Int32) (v_this_ways_law_stack : Nat → Int64) (v_this_ways_law_town : Int32) (p0 : Int32) : Option ((Nat → Int64) × Int64 × Int32 × Int32 × Int32 × Int32 × (Nat → Int64) × Int32) :=
Option.bind (itr (B_X5_value_2 v_this_house_loads_rows v_this_house_loads_cells v_this_house_acts_cells v_this_house_acts_rows v_this_house_gates_cells v_this_house_gates_rows v_this_house_merchants_cells v_this_house_merchants_rows p0 v_this_house_prices_cells v_this_house_prices_rows v_this_house_narrow) FU ((0 : Int32), v_this_silver, v_this_ways_law_about, v_this_ways_law_gate, v_this_ways_law_height, v_this_ways_law_kin, v_this_ways_law_season, v_this_ways_law_stack, v_this_ways_law_town)) fun x_2 =>
some (x_2.2.1, x_2.2.2.1, x_2.2.2.2.1, x_2.2.2.2.2.1, x_2.2.2.2.2.2.1, x_2.2.2.2.2.2.2.1, x_2.2.2.2.2.2.2.2.1, x_2.2.2.2.2.2.2.2.2)

def F_X5_silverOf (v_this_silver : Nat → Int64) (p0 : Int32) (p1 : Int32) (p2 : Int32) : Option (Int64) :=
lt ((((p0 * (3 : Int32)) + p1) * (3 : Int32)) + p2) fun x_1 =>
Option.bind (if x_1 < 0 then (
some (0 : Int64)) else (
if x_1 < (54 : Int32) then (
Option.bind (gL v_this_silver 54 x_1) fun t_3 =>
some t_3) else (
some (0 : Int64)))) fun j_2 =>
some j_2

def B_X5_worstOf_25 (v_this_silver : Nat → Int64) (s_2 : Int64 × Int64 × Int64 × Int32 × Int32) : Option ((Int64 × Int64 × Int64 × Int32 × Int32) ⊕ (Int64 × Int64 × Int64 × Int32 × Int32)) :=
if s_2.2.2.2.2 < 0 then (
some (Sum.inr (s_2.1, s_2.2.1, s_2.2.2.1, s_2.2.2.2.1, s_2.2.2.2.2))) else (
Option.bind (mI s_2.2.2.2.1 (3 : Int32)) fun t_4 =>
Option.bind (qI s_2.2.2.2.1 (3 : Int32)) fun t_5 =>
Option.bind (F_X5_silverOf v_this_silver s_2.2.2.2.2 t_4 (0 : Int32)) fun c_6 =>
lt (s_2.1 + c_6) fun x_7 =>
Option.bind (F_X5_silverOf v_this_silver s_2.2.2.2.2 t_4 (1 : Int32)) fun c_8 =>
lt (s_2.2.1 + c_8) fun x_9 =>
Option.bind (F_X5_silverOf v_this_silver s_2.2.2.2.2 t_4 (2 : Int32)) fun c_10 =>
lt (s_2.2.2.1 + c_10) fun x_11 =>
lt (s_2.2.2.2.2 + (-1 : Int32)) fun x_12 =>
some (Sum.inl (x_7, x_9, x_11, t_5, x_12)))
def F_X5_worstOf (v_this_house_loads_rows : Int32) (v_this_silver : Nat → Int64) (p0 : Int32) : Option (Int64) :=
lt (v_this_house_loads_rows - (1 : Int32)) fun x_1 =>
Option.bind (itr (B_X5_worstOf_25 v_this_silver) FU ((0 : Int64), (0 : Int64), (0 : Int64), p0, x_1)) fun x_3 =>
some (if (if x_3.2.2.1 < x_3.2.1 then x_3.2.2.1 else x_3.2.1) < x_3.1 then (if x_3.2.2.1 < x_3.2.1 then x_3.2.2.1 else x_3.2.1) else x_3.1)

def B_X5_choose_4 (v_this_house_loads_rows : Int32) (s_1 : Int32 × Int32) : Option ((Int32 × Int32) ⊕ (Int32 × Int32)) :=
if s_1.2 < v_this_house_loads_rows then (
lt (s_1.1 * (3 : Int32)) fun x_3 =>
lt (s_1.2 + (1 : Int32)) fun x_4 =>
some (Sum.inl (x_3, x_4))) else (
some (Sum.inr (s_1.1, s_1.2)))
def B_X5_choose_44 (x_2 : Int32 × Int32) (v_this_house_loads_rows : Int32) (v_this_silver : Nat → Int64) (s_6 : Int32 × Int64 × Int32) : Option ((Int32 × Int64 × Int32) ⊕ (Int32 × Int64 × Int32)) :=
if s_6.1 < x_2.1 then (
Option.bind (F_X5_worstOf v_this_house_loads_rows v_this_silver s_6.1) fun c_8 =>
Option.bind (if s_6.2.1 < c_8 then (
some (c_8, s_6.1)) else (
some (s_6.2.1, s_6.2.2))) fun j_9 =>
lt (s_6.1 + (1 : Int32)) fun x_10 =>
some (Sum.inl (x_10, j_9.1, j_9.2))) else (
some (Sum.inr (s_6.1, s_6.2.1, s_6.2.2)))
def F_X5_choose (v_this_best : Int64) (v_this_bestPlan : Int32) (v_this_house_loads_rows : Int32) (v_this_silver : Nat → Int64) : Option (Int64 × Int32) :=
Option.bind (itr (B_X5_choose_4 v_this_house_loads_rows) FU ((1 : Int32), (0 : Int32))) fun x_2 =>
Option.bind (F_X5_worstOf v_this_house_loads_rows v_this_silver (0 : Int32)) fun c_5 =>
Option.bind (itr (B_X5_choose_44 x_2 v_this_house_loads_rows v_this_silver) FU ((1 : Int32), c_5, (0 : Int32))) fun x_7 =>
some (x_7.2.1, x_7.2.2)

def B_X5_wayOf_16 (p1 : Int32) (s_2 : Int32 × Int32) : Option ((Int32 × Int32) ⊕ (Int32 × Int32)) :=
if p1 < s_2.2 then (
Option.bind (qI s_2.1 (3 : Int32)) fun t_4 =>
lt (s_2.2 + (-1 : Int32)) fun x_5 =>
some (Sum.inl (t_4, x_5))) else (
some (Sum.inr (s_2.1, s_2.2)))
def F_X5_wayOf (v_this_house_loads_rows : Int32) (p0 : Int32) (p1 : Int32) : Option (Int32) :=
lt (v_this_house_loads_rows - (1 : Int32)) fun x_1 =>
Option.bind (itr (B_X5_wayOf_16 p1) FU (p0, x_1)) fun x_3 =>
Option.bind (mI x_3.1 (3 : Int32)) fun t_6 =>
some t_6

def F_X6_carriedBy (v_this_carried : Nat → Int32) (p0 : Int32) : Option (Int32) :=
Option.bind (if p0 < 0 then (
some (0 : Int32)) else (
if p0 < (30 : Int32) then (
Option.bind (gI v_this_carried 30 p0) fun t_2 =>
some t_2) else (
some (0 : Int32)))) fun j_1 =>
some j_1

def B_X6_knownTo_5 (v_this_house_letters_rows : Int32) (v_this_house_letters_cells : Nat → Int32) (p0 : Int32) (p1 : Int32) (v_this_carried : Nat → Int32) (s_1 : Int32 × Int32) : Option ((Int32 × Int32) ⊕ (Int32 × Int32)) :=
if s_1.2 < v_this_house_letters_rows then (
Option.bind (F_X8_get 150 v_this_house_letters_cells v_this_house_letters_rows (5 : Int32) s_1.2 (0 : Int32)) fun c_3 =>
Option.bind (if c_3 = p0 then (
Option.bind (F_X8_get 150 v_this_house_letters_cells v_this_house_letters_rows (5 : Int32) s_1.2 (2 : Int32)) fun c_5 =>
if p1 < c_5 then (
some s_1.1) else (
Option.bind (F_X8_get 150 v_this_house_letters_cells v_this_house_letters_rows (5 : Int32) s_1.2 (4 : Int32)) fun c_6 =>
Option.bind (if c_6 = (-1 : Int32) then (
some (0 : Int32)) else (
some ((1 : Int32) <<< (c_6 &&& 31)))) fun j_7 =>
lt (s_1.1 ||| j_7) fun x_8 =>
some x_8)) else (
some s_1.1)) fun j_4 =>
Option.bind (F_X8_get 150 v_this_house_letters_cells v_this_house_letters_rows (5 : Int32) s_1.2 (1 : Int32)) fun c_9 =>
Option.bind (if c_9 = p0 then (
Option.bind (F_X8_get 150 v_this_house_letters_cells v_this_house_letters_rows (5 : Int32) s_1.2 (3 : Int32)) fun c_11 =>
if p1 < c_11 then (
some j_4) else (
Option.bind (F_X6_carriedBy v_this_carried s_1.2) fun c_12 =>
lt (j_4 ||| c_12) fun x_13 =>
some x_13)) else (
some j_4)) fun j_10 =>
lt (s_1.2 + (1 : Int32)) fun x_14 =>
some (Sum.inl (j_10, x_14))) else (
some (Sum.inr (s_1.1, s_1.2)))
def F_X6_knownTo (v_this_carried : Nat → Int32) (v_this_house_letters_cells : Nat → Int32) (v_this_house_letters_rows : Int32) (p0 : Int32) (p1 : Int32) : Option (Int32) :=
Option.bind (itr (B_X6_knownTo_5 v_this_house_letters_rows v_this_house_letters_cells p0 p1 v_this_carried) FU ((0 : Int32), (0 : Int32))) fun x_2 =>
some x_2.1

def B_X6_fill_27 (v_this_house_letters_rows : Int32) (v_this_house_letters_cells : Nat → Int32) (s_4 : Int32 × Int32 × (Nat → Int32)) : Option ((Int32 × Int32 × (Nat → Int32)) ⊕ (Int32 × Int32 × (Nat → Int32))) :=
if s_4.2.1 < v_this_house_letters_rows then (
if s_4.2.1 < (30 : Int32) then (
Option.bind (F_X8_get 150 v_this_house_letters_cells v_this_house_letters_rows (5 : Int32) s_4.2.1 (0 : Int32)) fun c_6 =>
Option.bind (F_X8_get 150 v_this_house_letters_cells v_this_house_letters_rows (5 : Int32) s_4.2.1 (2 : Int32)) fun c_7 =>
Option.bind (F_X6_knownTo s_4.2.2 v_this_house_letters_cells v_this_house_letters_rows c_6 c_7) fun c_8 =>
Option.bind (if s_4.1 = 0 then (
Option.bind (gI s_4.2.2 30 s_4.2.1) fun t_10 =>
if c_8 = t_10 then (
some (0 : Int32)) else (
some (1 : Int32))) else (
some (1 : Int32))) fun j_9 =>
Option.bind (sI s_4.2.2 30 s_4.2.1 c_8) fun g_11 =>
lt (s_4.2.1 + (1 : Int32)) fun x_12 =>
some (Sum.inl (j_9, x_12, g_11))) else (
some (Sum.inr (s_4.1, s_4.2.1, s_4.2.2)))) else (
some (Sum.inr (s_4.1, s_4.2.1, s_4.2.2)))
def B_X6_fill_12 (v_this_house_letters_rows : Int32) (v_this_house_letters_cells : Nat → Int32) (s_2 : Int32 × Int32 × (Nat → Int32)) : Option ((Int32 × Int32 × (Nat → Int32)) ⊕ (Int32 × Int32 × (Nat → Int32))) :=
if s_2.2.1 < (241 : Int32) then (
if s_2.1 = 0 then (
some (Sum.inr (s_2.1, s_2.2.1, s_2.2.2))) else (
Option.bind (itr (B_X6_fill_27 v_this_house_letters_rows v_this_house_letters_cells) FU ((0 : Int32), (0 : Int32), s_2.2.2)) fun x_5 =>
lt (s_2.2.1 + (1 : Int32)) fun x_13 =>
some (Sum.inl (x_5.1, x_13, x_5.2.2)))) else (
some (Sum.inr (s_2.1, s_2.2.1, s_2.2.2)))
def F_X6_fill (v_this_carried : Nat → Int32) (v_this_house_letters_cells : Nat → Int32) (v_this_house_letters_rows : Int32) : Option ((Nat → Int32)) :=
Option.bind (F_J7_fill_53178 30 v_this_carried (0 : Int32)) fun c_1 =>
Option.bind (itr (B_X6_fill_12 v_this_house_letters_rows v_this_house_letters_cells) FU ((1 : Int32), (0 : Int32), c_1)) fun x_3 =>
some x_3.2.2

def J_X7_takeDigit_2_27 (v_this_digits : Int32) (v_this_firstDigit : Int32) (v_this_number : Int32) (v_this_unitIsDue : Int32) (p0 : Int32) (p1 : Int32) (v_this_fault : Int32) (v_2 : Unit) : Option (Int32 × Int32 × Int32 × Int32 × Int32) :=
if v_this_digits = (6 : Int32) then (
lt (((10 : Int32) * v_this_firstDigit) + (2 : Int32)) fun x_6 =>
some (v_this_digits, x_6, v_this_firstDigit, v_this_number, v_this_unitIsDue)) else (
Option.bind (if v_this_digits = 0 then (
some p0) else (
some v_this_firstDigit)) fun j_3 =>
Option.bind (if v_this_digits = 0 then (
some p1) else (
some (((10 : Int32) * v_this_number) + p1))) fun j_4 =>
lt (v_this_digits + (1 : Int32)) fun x_5 =>
some (x_5, v_this_fault, j_3, j_4, (0 : Int32)))
def F_X7_takeDigit (v_this_digits : Int32) (v_this_fault : Int32) (v_this_firstDigit : Int32) (v_this_number : Int32) (v_this_unitIsDue : Int32) (p0 : Int32) (p1 : Int32) : Option (Int32 × Int32 × Int32 × Int32 × Int32) :=
Option.bind (if v_this_digits = 0 then (
if v_this_unitIsDue = 0 then (
lt (((10 : Int32) * p0) + (1 : Int32)) fun x_7 =>
some (v_this_digits, x_7, v_this_firstDigit, v_this_number, v_this_unitIsDue)) else (
J_X7_takeDigit_2_27 v_this_digits v_this_firstDigit v_this_number v_this_unitIsDue p0 p1 v_this_fault ())) else (
J_X7_takeDigit_2_27 v_this_digits v_this_firstDigit v_this_number v_this_unitIsDue p0 p1 v_this_fault ())) fun j_1 =>
some (j_1.1, j_1.2.1, j_1.2.2.1, j_1.2.2.2.1, j_1.2.2.2.2)

def F_X7_put (v_this_codes : Nat → Int32) (v_this_count : Int32) (p0 : Int32) : Option ((Nat → Int32) × Int32) :=
Option.bind (if v_this_count < 0 then (
some (v_this_codes, v_this_count)) else (
if v_this_count < (50 : Int32) then (
Option.bind (sI v_this_codes 50 v_this_count p0) fun g_2 =>
lt (v_this_count + (1 : Int32)) fun x_3 =>
some (g_2, x_3)) else (
some (v_this_codes, v_this_count)))) fun j_1 =>
some (j_1.1, j_1.2)

def F_X7_endNumber (v_this_codes : Nat → Int32) (v_this_count : Int32) (v_this_digits : Int32) (v_this_number : Int32) : Option ((Nat → Int32) × Int32 × Int32) :=
Option.bind (if 0 < v_this_digits then (
Option.bind (F_X7_put v_this_codes v_this_count v_this_number) fun c_2 =>
some (c_2.1, c_2.2, (0 : Int32))) else (
some (v_this_codes, v_this_count, v_this_digits))) fun j_1 =>
some (j_1.1, j_1.2.1, j_1.2.2)

def F_X7_rank (p0 : Int32) : Option (Int32) :=
if p0 = (33 : Int32) then (
some (7 : Int32)) else (
if p0 = (38 : Int32) then (
some (3 : Int32)) else (
if p0 = (42 : Int32) then (
some (6 : Int32)) else (
if p0 = (43 : Int32) then (
some (5 : Int32)) else (
if p0 = (45 : Int32) then (
some (5 : Int32)) else (
if p0 = (47 : Int32) then (
some (6 : Int32)) else (
if p0 = (58 : Int32) then (
some (1 : Int32)) else (
if p0 = (60 : Int32) then (
some (4 : Int32)) else (
if p0 = (61 : Int32) then (
some (4 : Int32)) else (
if p0 = (62 : Int32) then (
some (4 : Int32)) else (
if p0 = (124 : Int32) then (
some (2 : Int32)) else (
if p0 = (126 : Int32) then (
some (7 : Int32)) else (
some (0 : Int32)))))))))))))

def F_X7_top (v_this_waiting : Nat → Int32) (v_this_waits : Int32) : Option (Int32) :=
Option.bind (if 0 < v_this_waits then (
if (50 : Int32) < v_this_waits then (
some (0 : Int32)) else (
Option.bind (gI v_this_waiting 50 (v_this_waits - (1 : Int32))) fun t_2 =>
some t_2)) else (
some (0 : Int32))) fun j_1 =>
some j_1

def B_X7_release_2 (v_this_waiting : Nat → Int32) (p0 : Int32) (s_1 : Int32 × (Nat → Int32) × Int32 × Int32) : Option ((Int32 × (Nat → Int32) × Int32 × Int32) ⊕ (Int32 × (Nat → Int32) × Int32 × Int32)) :=
if s_1.1 < (50 : Int32) then (
Option.bind (F_X7_top v_this_waiting s_1.2.2.2) fun c_3 =>
Option.bind (F_X7_rank c_3) fun c_4 =>
if c_4 < p0 then (
some (Sum.inr (s_1.1, s_1.2.1, s_1.2.2.1, s_1.2.2.2))) else (
Option.bind (F_X7_top v_this_waiting s_1.2.2.2) fun c_5 =>
Option.bind (if c_5 = (58 : Int32) then (
some (-63 : Int32)) else (
some (-c_5))) fun j_6 =>
Option.bind (F_X7_put s_1.2.1 s_1.2.2.1 j_6) fun c_7 =>
lt (s_1.2.2.2 - (1 : Int32)) fun x_8 =>
lt (s_1.1 + (1 : Int32)) fun x_9 =>
some (Sum.inl (x_9, c_7.1, c_7.2, x_8)))) else (
some (Sum.inr (s_1.1, s_1.2.1, s_1.2.2.1, s_1.2.2.2)))
def F_X7_release (v_this_codes : Nat → Int32) (v_this_count : Int32) (v_this_waiting : Nat → Int32) (v_this_waits : Int32) (p0 : Int32) : Option ((Nat → Int32) × Int32 × Int32) :=
Option.bind (itr (B_X7_release_2 v_this_waiting p0) FU ((0 : Int32), v_this_codes, v_this_count, v_this_waits)) fun x_2 =>
some (x_2.2.1, x_2.2.2.1, x_2.2.2.2)

def F_X7_push (v_this_waiting : Nat → Int32) (v_this_waits : Int32) (p0 : Int32) : Option ((Nat → Int32) × Int32) :=
Option.bind (if v_this_waits < 0 then (
some (v_this_waiting, v_this_waits)) else (
if v_this_waits < (50 : Int32) then (
Option.bind (sI v_this_waiting 50 v_this_waits p0) fun g_2 =>
lt (v_this_waits + (1 : Int32)) fun x_3 =>
some (g_2, x_3)) else (
some (v_this_waiting, v_this_waits)))) fun j_1 =>
some (j_1.1, j_1.2)

def J_X7_join_2_16 (p0 : Int32) (v_this_codes : Nat → Int32) (v_this_count : Int32) (v_this_unitIsDue : Int32) (v_this_waiting : Nat → Int32) (v_this_waits : Int32) (v_2 : Unit) : Option ((Nat → Int32) × Int32 × Int32 × Int32 × (Nat → Int32) × Int32) :=
lt (((10 : Int32) * p0) + (1 : Int32)) fun x_3 =>
some (v_this_codes, v_this_count, x_3, v_this_unitIsDue, v_this_waiting, v_this_waits)
def J_X7_join_3_68 (v_this_waiting : Nat → Int32) (c_5 : (Nat → Int32) × Int32 × Int32) (p1 : Int32) (v_this_fault : Int32) (v_6 : Unit) : Option ((Nat → Int32) × Int32 × Int32 × Int32 × (Nat → Int32) × Int32) :=
Option.bind (F_X7_push v_this_waiting c_5.2.2 p1) fun c_7 =>
some (c_5.1, c_5.2.1, v_this_fault, (1 : Int32), c_7.1, c_7.2)
def F_X7_join (v_this_codes : Nat → Int32) (v_this_count : Int32) (v_this_fault : Int32) (v_this_unitIsDue : Int32) (v_this_waiting : Nat → Int32) (v_this_waits : Int32) (p0 : Int32) (p1 : Int32) : Option ((Nat → Int32) × Int32 × Int32 × Int32 × (Nat → Int32) × Int32) :=
Option.bind (F_X7_rank p1) fun c_1 =>
if (1 : Int32) < c_1 then (
if c_1 < (7 : Int32) then (
Option.bind (if c_1 = (4 : Int32) then (
some (5 : Int32)) else (
some c_1)) fun j_4 =>
Option.bind (F_X7_release v_this_codes v_this_count v_this_waiting v_this_waits j_4) fun c_5 =>
if c_1 = (4 : Int32) then (
Option.bind (F_X7_top v_this_waiting c_5.2.2) fun c_8 =>
Option.bind (F_X7_rank c_8) fun c_9 =>
if c_9 = (4 : Int32) then (
lt (((10 : Int32) * p0) + (1 : Int32)) fun x_10 =>
some (c_5.1, c_5.2.1, x_10, v_this_unitIsDue, v_this_waiting, c_5.2.2)) else (
J_X7_join_3_68 v_this_waiting c_5 p1 v_this_fault ())) else (
J_X7_join_3_68 v_this_waiting c_5 p1 v_this_fault ())) else (
J_X7_join_2_16 p0 v_this_codes v_this_count v_this_unitIsDue v_this_waiting v_this_waits ())) else (
J_X7_join_2_16 p0 v_this_codes v_this_count v_this_unitIsDue v_this_waiting v_this_waits ())

def F_X7_turn (v_this_codes : Nat → Int32) (v_this_count : Int32) (v_this_fault : Int32) (v_this_unitIsDue : Int32) (v_this_waiting : Nat → Int32) (v_this_waits : Int32) (p0 : Int32) : Option ((Nat → Int32) × Int32 × Int32 × Int32 × (Nat → Int32) × Int32) :=
Option.bind (F_X7_release v_this_codes v_this_count v_this_waiting v_this_waits (1 : Int32)) fun c_1 =>
Option.bind (F_X7_top v_this_waiting c_1.2.2) fun c_2 =>
Option.bind (if c_2 = (63 : Int32) then (
lt (c_1.2.2 - (1 : Int32)) fun x_5 =>
Option.bind (F_X7_push v_this_waiting x_5 (58 : Int32)) fun c_6 =>
some (v_this_fault, (1 : Int32), c_6.1, c_6.2)) else (
lt (((10 : Int32) * p0) + (1 : Int32)) fun x_4 =>
some (x_4, v_this_unitIsDue, v_this_waiting, c_1.2.2))) fun j_3 =>
some (c_1.1, c_1.2.1, j_3.1, j_3.2.1, j_3.2.2.1, j_3.2.2.2)

def F_X7_closeOne (v_this_codes : Nat → Int32) (v_this_count : Int32) (v_this_fault : Int32) (v_this_open : Int32) (v_this_waiting : Nat → Int32) (v_this_waits : Int32) (p0 : Int32) : Option ((Nat → Int32) × Int32 × Int32 × Int32 × Int32) :=
Option.bind (F_X7_release v_this_codes v_this_count v_this_waiting v_this_waits (1 : Int32)) fun c_1 =>
Option.bind (F_X7_top v_this_waiting c_1.2.2) fun c_2 =>
Option.bind (if c_2 = (40 : Int32) then (
lt (c_1.2.2 - (1 : Int32)) fun x_5 =>
lt (v_this_open - (1 : Int32)) fun x_6 =>
some (v_this_fault, x_6, x_5)) else (
lt (((10 : Int32) * p0) + (1 : Int32)) fun x_4 =>
some (x_4, v_this_open, c_1.2.2))) fun j_3 =>
some (c_1.1, c_1.2.1, j_3.1, j_3.2.1, j_3.2.2)

def F_X7_takeJoint (v_this_codes : Nat → Int32) (v_this_count : Int32) (v_this_fault : Int32) (v_this_open : Int32) (v_this_unitIsDue : Int32) (v_this_waiting : Nat → Int32) (v_this_waits : Int32) (p0 : Int32) (p1 : Int32) : Option ((Nat → Int32) × Int32 × Int32 × Int32 × Int32 × (Nat → Int32) × Int32) :=
Option.bind (if p1 = (41 : Int32) then (
Option.bind (F_X7_closeOne v_this_codes v_this_count v_this_fault v_this_open v_this_waiting v_this_waits p0) fun c_6 =>
some (c_6.1, c_6.2.1, c_6.2.2.1, c_6.2.2.2.1, v_this_unitIsDue, v_this_waiting, c_6.2.2.2.2)) else (
if p1 = (58 : Int32) then (
Option.bind (F_X7_turn v_this_codes v_this_count v_this_fault v_this_unitIsDue v_this_waiting v_this_waits p0) fun c_5 =>
some (c_5.1, c_5.2.1, c_5.2.2.1, v_this_open, c_5.2.2.2.1, c_5.2.2.2.2.1, c_5.2.2.2.2.2)) else (
if p1 = (63 : Int32) then (
Option.bind (F_X7_release v_this_codes v_this_count v_this_waiting v_this_waits (2 : Int32)) fun c_3 =>
Option.bind (F_X7_push v_this_waiting c_3.2.2 p1) fun c_4 =>
some (c_3.1, c_3.2.1, v_this_fault, v_this_open, (1 : Int32), c_4.1, c_4.2)) else (
Option.bind (F_X7_join v_this_codes v_this_count v_this_fault v_this_unitIsDue v_this_waiting v_this_waits p0 p1) fun c_2 =>
some (c_2.1, c_2.2.1, c_2.2.2.1, v_this_open, c_2.2.2.2.1, c_2.2.2.2.2.1, c_2.2.2.2.2.2))))) fun j_1 =>
some (j_1.1, j_1.2.1, j_1.2.2.1, j_1.2.2.2.1, j_1.2.2.2.2.1, j_1.2.2.2.2.2.1, j_1.2.2.2.2.2.2)

def F_X7_openOne (v_this_fault : Int32) (v_this_open : Int32) (v_this_waiting : Nat → Int32) (v_this_waits : Int32) (p0 : Int32) : Option (Int32 × Int32 × (Nat → Int32) × Int32) :=
Option.bind (if v_this_open = (8 : Int32) then (
lt (((10 : Int32) * p0) + (3 : Int32)) fun x_4 =>
some (x_4, v_this_open, v_this_waiting, v_this_waits)) else (
lt (v_this_open + (1 : Int32)) fun x_2 =>
Option.bind (F_X7_push v_this_waiting v_this_waits (40 : Int32)) fun c_3 =>
some (v_this_fault, x_2, c_3.1, c_3.2))) fun j_1 =>
some (j_1.1, j_1.2.1, j_1.2.2.1, j_1.2.2.2)

def F_X7_takeUnit (v_this_codes : Nat → Int32) (v_this_count : Int32) (v_this_fault : Int32) (v_this_open : Int32) (v_this_unitIsDue : Int32) (v_this_waiting : Nat → Int32) (v_this_waits : Int32) (p0 : Int32) (p1 : Int32) : Option ((Nat → Int32) × Int32 × Int32 × Int32 × Int32 × (Nat → Int32) × Int32) :=
Option.bind (if p1 = (33 : Int32) then (
Option.bind (F_X7_push v_this_waiting v_this_waits p1) fun c_2 =>
some (v_this_codes, v_this_count, v_this_fault, v_this_open, v_this_unitIsDue, c_2.1, c_2.2)) else (
if p1 = (40 : Int32) then (
Option.bind (F_X7_openOne v_this_fault v_this_open v_this_waiting v_this_waits p0) fun c_3 =>
some (v_this_codes, v_this_count, c_3.1, c_3.2.1, v_this_unitIsDue, c_3.2.2.1, c_3.2.2.2)) else (
if p1 = (45 : Int32) then (
Option.bind (F_X7_push v_this_waiting v_this_waits (126 : Int32)) fun c_4 =>
some (v_this_codes, v_this_count, v_this_fault, v_this_open, v_this_unitIsDue, c_4.1, c_4.2)) else (
if p1 = (103 : Int32) then (
Option.bind (F_X7_put v_this_codes v_this_count (-p1)) fun c_5 =>
some (c_5.1, c_5.2, v_this_fault, v_this_open, (0 : Int32), v_this_waiting, v_this_waits)) else (
if p1 = (107 : Int32) then (
Option.bind (F_X7_put v_this_codes v_this_count (-p1)) fun c_6 =>
some (c_6.1, c_6.2, v_this_fault, v_this_open, (0 : Int32), v_this_waiting, v_this_waits)) else (
if p1 = (115 : Int32) then (
Option.bind (F_X7_put v_this_codes v_this_count (-p1)) fun c_7 =>
some (c_7.1, c_7.2, v_this_fault, v_this_open, (0 : Int32), v_this_waiting, v_this_waits)) else (
if p1 = (116 : Int32) then (
Option.bind (F_X7_put v_this_codes v_this_count (-p1)) fun c_8 =>
some (c_8.1, c_8.2, v_this_fault, v_this_open, (0 : Int32), v_this_waiting, v_this_waits)) else (
if p1 = (119 : Int32) then (
Option.bind (F_X7_put v_this_codes v_this_count (-p1)) fun c_9 =>
some (c_9.1, c_9.2, v_this_fault, v_this_open, (0 : Int32), v_this_waiting, v_this_waits)) else (
lt (((10 : Int32) * p0) + (1 : Int32)) fun x_10 =>
some (v_this_codes, v_this_count, x_10, v_this_open, v_this_unitIsDue, v_this_waiting, v_this_waits)))))))))) fun j_1 =>
some (j_1.1, j_1.2.1, j_1.2.2.1, j_1.2.2.2.1, j_1.2.2.2.2.1, j_1.2.2.2.2.2.1, j_1.2.2.2.2.2.2)

def J_X7_take_1_22 (v_this_codes : Nat → Int32) (v_this_count : Int32) (v_this_digits : Int32) (v_this_number : Int32) (p1 : Int32) (v_this_fault : Int32) (v_this_firstDigit : Int32) (v_this_open : Int32) (v_this_unitIsDue : Int32) (v_this_waiting : Nat → Int32) (v_this_waits : Int32) (p0 : Int32) (v_1 : Unit) : Option ((Nat → Int32) × Int32 × Int32 × Int32 × Int32 × Int32 × Int32 × Int32 × (Nat → Int32) × Int32) :=
Option.bind (F_X7_endNumber v_this_codes v_this_count v_this_digits v_this_number) fun c_2 =>
if p1 = (32 : Int32) then (
some (c_2.1, c_2.2.1, c_2.2.2, v_this_fault, v_this_firstDigit, v_this_number, v_this_open, v_this_unitIsDue, v_this_waiting, v_this_waits)) else (
Option.bind (if v_this_unitIsDue = 0 then (
Option.bind (F_X7_takeJoint c_2.1 c_2.2.1 v_this_fault v_this_open v_this_unitIsDue v_this_waiting v_this_waits p0 p1) fun c_4 =>
some (c_4.1, c_4.2.1, c_4.2.2.1, c_4.2.2.2.1, c_4.2.2.2.2.1, c_4.2.2.2.2.2.1, c_4.2.2.2.2.2.2)) else (
Option.bind (F_X7_takeUnit c_2.1 c_2.2.1 v_this_fault v_this_open v_this_unitIsDue v_this_waiting v_this_waits p0 p1) fun c_5 =>
some (c_5.1, c_5.2.1, c_5.2.2.1, c_5.2.2.2.1, c_5.2.2.2.2.1, c_5.2.2.2.2.2.1, c_5.2.2.2.2.2.2))) fun j_3 =>
some (j_3.1, j_3.2.1, c_2.2.2, j_3.2.2.1, v_this_firstDigit, v_this_number, j_3.2.2.2.1, j_3.2.2.2.2.1, j_3.2.2.2.2.2.1, j_3.2.2.2.2.2.2))
def F_X7_take (v_this_codes : Nat → Int32) (v_this_count : Int32) (v_this_digits : Int32) (v_this_fault : Int32) (v_this_firstDigit : Int32) (v_this_number : Int32) (v_this_open : Int32) (v_this_unitIsDue : Int32) (v_this_waiting : Nat → Int32) (v_this_waits : Int32) (p0 : Int32) (p1 : Int32) : Option ((Nat → Int32) × Int32 × Int32 × Int32 × Int32 × Int32 × Int32 × Int32 × (Nat → Int32) × Int32) :=
if p1 < (48 : Int32) then (
J_X7_take_1_22 v_this_codes v_this_count v_this_digits v_this_number p1 v_this_fault v_this_firstDigit v_this_open v_this_unitIsDue v_this_waiting v_this_waits p0 ()) else (
if (57 : Int32) < p1 then (
J_X7_take_1_22 v_this_codes v_this_count v_this_digits v_this_number p1 v_this_fault v_this_firstDigit v_this_open v_this_unitIsDue v_this_waiting v_this_waits p0 ()) else (
Option.bind (F_X7_takeDigit v_this_digits v_this_fault v_this_firstDigit v_this_number v_this_unitIsDue p0 (p1 - (48 : Int32))) fun c_6 =>
some (v_this_codes, v_this_count, c_6.1, c_6.2.1, c_6.2.2.1, c_6.2.2.2.1, v_this_open, c_6.2.2.2.2, v_this_waiting, v_this_waits)))

def F_X7_end (v_this_codes : Nat → Int32) (v_this_count : Int32) (v_this_digits : Int32) (v_this_fault : Int32) (v_this_number : Int32) (v_this_unitIsDue : Int32) (v_this_waiting : Nat → Int32) (v_this_waits : Int32) (p0 : Int32) : Option ((Nat → Int32) × Int32 × Int32 × Int32 × Int32) :=
Option.bind (F_X7_endNumber v_this_codes v_this_count v_this_digits v_this_number) fun c_1 =>
Option.bind (F_X7_release c_1.1 c_1.2.1 v_this_waiting v_this_waits (1 : Int32)) fun c_2 =>
Option.bind (if v_this_unitIsDue = 0 then (
if 0 < c_2.2.2 then (
lt (((10 : Int32) * p0) + (1 : Int32)) fun x_5 =>
some x_5) else (
some v_this_fault)) else (
lt (((10 : Int32) * p0) + (1 : Int32)) fun x_4 =>
some x_4)) fun j_3 =>
some (c_2.1, c_2.2.1, c_1.2.2, j_3, c_2.2.2)

def B_X7_read_40 (c_1 : Int32) (n_p0_cells : Nat) (v_p0_cells : Nat → Int32) (v_p0_rows : Int32) (v_p0_width : Int32) (p1 : Int32) (s_2 : Int32 × (Nat → Int32) × Int32 × Int32 × Int32 × Int32 × Int32 × Int32 × Int32 × (Nat → Int32) × Int32) : Option ((Int32 × (Nat → Int32) × Int32 × Int32 × Int32 × Int32 × Int32 × Int32 × Int32 × (Nat → Int32) × Int32) ⊕ (Int32 × (Nat → Int32) × Int32 × Int32 × Int32 × Int32 × Int32 × Int32 × Int32 × (Nat → Int32) × Int32)) :=
if s_2.1 < c_1 then (
if s_2.2.2.2.2.1 = (-1 : Int32) then (
Option.bind (F_X8_get n_p0_cells v_p0_cells v_p0_rows v_p0_width p1 ((1 : Int32) + s_2.1)) fun c_4 =>
Option.bind (F_X7_take s_2.2.1 s_2.2.2.1 s_2.2.2.2.1 s_2.2.2.2.2.1 s_2.2.2.2.2.2.1 s_2.2.2.2.2.2.2.1 s_2.2.2.2.2.2.2.2.1 s_2.2.2.2.2.2.2.2.2.1 s_2.2.2.2.2.2.2.2.2.2.1 s_2.2.2.2.2.2.2.2.2.2.2 s_2.1 c_4) fun c_5 =>
lt (s_2.1 + (1 : Int32)) fun x_6 =>
some (Sum.inl (x_6, c_5.1, c_5.2.1, c_5.2.2.1, c_5.2.2.2.1, c_5.2.2.2.2.1, c_5.2.2.2.2.2.1, c_5.2.2.2.2.2.2.1, c_5.2.2.2.2.2.2.2.1, c_5.2.2.2.2.2.2.2.2.1, c_5.2.2.2.2.2.2.2.2.2))) else (
some (Sum.inr (s_2.1, s_2.2.1, s_2.2.2.1, s_2.2.2.2.1, s_2.2.2.2.2.1, s_2.2.2.2.2.2.1, s_2.2.2.2.2.2.2.1, s_2.2.2.2.2.2.2.2.1, s_2.2.2.2.2.2.2.2.2.1, s_2.2.2.2.2.2.2.2.2.2.1, s_2.2.2.2.2.2.2.2.2.2.2)))) else (
some (Sum.inr (s_2.1, s_2.2.1, s_2.2.2.1, s_2.2.2.2.1, s_2.2.2.2.2.1, s_2.2.2.2.2.2.1, s_2.2.2.2.2.2.2.1, s_2.2.2.2.2.2.2.2.1, s_2.2.2.2.2.2.2.2.2.1, s_2.2.2.2.2.2.2.2.2.2.1, s_2.2.2.2.2.2.2.2.2.2.2)))
def F_X7_read (n_p0_cells : Nat) (v_p0_cells : Nat → Int32) (v_p0_rows : Int32) (v_p0_width : Int32) (v_this_codes : Nat → Int32) (v_this_count : Int32) (v_this_digits : Int32) (v_this_fault : Int32) (v_this_firstDigit : Int32) (v_this_number : Int32) (v_this_open : Int32) (v_this_unitIsDue : Int32) (v_this_waiting : Nat → Int32) (v_this_waits : Int32) (p1 : Int32) : Option (Int32 × (Nat → Int32) × Int32 × Int32 × Int32 × Int32 × Int32 × Int32 × Int32 × (Nat → Int32) × Int32) :=
Option.bind (F_X8_get n_p0_cells v_p0_cells v_p0_rows v_p0_width p1 (0 : Int32)) fun c_1 =>
Option.bind (itr (B_X7_read_40 c_1 n_p0_cells v_p0_cells v_p0_rows v_p0_width p1) FU ((0 : Int32), v_this_codes, (0 : Int32), (0 : Int32), (-1 : Int32), v_this_firstDigit, v_this_number, (0 : Int32), (1 : Int32), v_this_waiting, (0 : Int32))) fun x_3 =>
Option.bind (if x_3.2.2.2.2.1 = (-1 : Int32) then (
Option.bind (F_X7_end x_3.2.1 x_3.2.2.1 x_3.2.2.2.1 x_3.2.2.2.2.1 x_3.2.2.2.2.2.2.1 x_3.2.2.2.2.2.2.2.2.1 x_3.2.2.2.2.2.2.2.2.2.1 x_3.2.2.2.2.2.2.2.2.2.2 c_1) fun c_8 =>
some (c_8.1, c_8.2.1, c_8.2.2.1, c_8.2.2.2.1, c_8.2.2.2.2)) else (
some (x_3.2.1, x_3.2.2.1, x_3.2.2.2.1, x_3.2.2.2.2.1, x_3.2.2.2.2.2.2.2.2.2.2))) fun j_7 =>
some (j_7.2.2.2.1, j_7.1, j_7.2.1, j_7.2.2.1, j_7.2.2.2.1, x_3.2.2.2.2.2.1, x_3.2.2.2.2.2.2.1, x_3.2.2.2.2.2.2.2.1, x_3.2.2.2.2.2.2.2.2.1, x_3.2.2.2.2.2.2.2.2.2.1, j_7.2.2.2.2)

def F_X8_isFull (v_this_limit : Int32) (v_this_rows : Int32) : Option (Int32) :=
Option.bind (if v_this_rows < v_this_limit then (
some (0 : Int32)) else (
some (1 : Int32))) fun j_1 =>
Option.bind (bZ j_1) fun t_2 =>
some t_2

def B_X8_add_68 (v_this_width : Int32) (n_this_cells : Nat) (x_2 : Int32) (v_this_rows : Int32) (s_8 : Int32 × (Nat → Int32)) : Option ((Int32 × (Nat → Int32)) ⊕ (Int32 × (Nat → Int32))) :=
if s_8.1 < v_this_width then (
Option.bind (F_X8_set n_this_cells s_8.2 x_2 v_this_width v_this_rows s_8.1 (0 : Int32)) fun c_10 =>
lt (s_8.1 + (1 : Int32)) fun x_11 =>
some (Sum.inl (x_11, c_10))) else (
some (Sum.inr (s_8.1, s_8.2)))
def F_X8_add (n_this_cells : Nat) (v_this_cells : Nat → Int32) (v_this_limit : Int32) (v_this_rows : Int32) (v_this_width : Int32) (p0 : Int32) (p1 : Int32) (p2 : Int32) (p3 : Int32) (p4 : Int32) : Option (Int32 × (Nat → Int32) × Int32) :=
Option.bind (F_X8_isFull v_this_limit v_this_rows) fun c_1 =>
if c_1 = 0 then (
lt (v_this_rows + (1 : Int32)) fun x_2 =>
Option.bind (F_X8_set n_this_cells v_this_cells x_2 v_this_width v_this_rows (0 : Int32) p0) fun c_3 =>
Option.bind (F_X8_set n_this_cells c_3 x_2 v_this_width v_this_rows (1 : Int32) p1) fun c_4 =>
Option.bind (F_X8_set n_this_cells c_4 x_2 v_this_width v_this_rows (2 : Int32) p2) fun c_5 =>
Option.bind (F_X8_set n_this_cells c_5 x_2 v_this_width v_this_rows (3 : Int32) p3) fun c_6 =>
Option.bind (F_X8_set n_this_cells c_6 x_2 v_this_width v_this_rows (4 : Int32) p4) fun c_7 =>
Option.bind (itr (B_X8_add_68 v_this_width n_this_cells x_2 v_this_rows) FU ((5 : Int32), c_7)) fun x_9 =>
some (v_this_rows, x_9.2, x_2)) else (
some ((-1 : Int32), v_this_cells, v_this_rows))

def F_X8_clear (v_this_rows : Int32) : Option (Int32) :=
some (0 : Int32)

def F_X9_lowerOf (v_this_house_stones_cells : Nat → Int32) (v_this_house_stones_rows : Int32) (p0 : Int32) : Option (Int64) :=
Option.bind (F_X8_get 36 v_this_house_stones_cells v_this_house_stones_rows (3 : Int32) p0 (1 : Int32)) fun c_1 =>
Option.bind (F_X8_get 36 v_this_house_stones_cells v_this_house_stones_rows (3 : Int32) p0 (2 : Int32)) fun c_2 =>
some ((c_1 - c_2).toInt64)

def F_X9_upperOf (v_this_house_stones_cells : Nat → Int32) (v_this_house_stones_rows : Int32) (p0 : Int32) : Option (Int64) :=
Option.bind (F_X8_get 36 v_this_house_stones_cells v_this_house_stones_rows (3 : Int32) p0 (1 : Int32)) fun c_1 =>
Option.bind (F_X8_get 36 v_this_house_stones_cells v_this_house_stones_rows (3 : Int32) p0 (2 : Int32)) fun c_2 =>
some ((c_1 + c_2).toInt64)

def F_X9_isAbove (v_this_house_stones_cells : Nat → Int32) (v_this_house_stones_rows : Int32) (p0 : Int64) (p1 : Int32) (p2 : Int64) (p3 : Int32) : Option (Int32) :=
Option.bind (F_X8_get 36 v_this_house_stones_cells v_this_house_stones_rows (3 : Int32) p3 (0 : Int32)) fun c_1 =>
Option.bind (F_X8_get 36 v_this_house_stones_cells v_this_house_stones_rows (3 : Int32) p1 (0 : Int32)) fun c_2 =>
Option.bind (if (p2 * c_2.toInt64) < (p0 * c_1.toInt64) then (
some (1 : Int32)) else (
some (0 : Int32))) fun j_3 =>
Option.bind (bZ j_3) fun t_4 =>
some t_4

def B_X9_highestLower_4 (v_this_house_stones_rows : Int32) (v_this_house_stones_cells : Nat → Int32) (s_1 : Int32 × Int32) : Option ((Int32 × Int32) ⊕ (Int32 × Int32)) :=
if s_1.2 < v_this_house_stones_rows then (
Option.bind (F_X9_lowerOf v_this_house_stones_cells v_this_house_stones_rows s_1.2) fun c_3 =>
Option.bind (F_X9_lowerOf v_this_house_stones_cells v_this_house_stones_rows s_1.1) fun c_4 =>
Option.bind (F_X9_isAbove v_this_house_stones_cells v_this_house_stones_rows c_3 s_1.2 c_4 s_1.1) fun c_5 =>
Option.bind (if c_5 = 0 then (
some s_1.1) else (
some s_1.2)) fun j_6 =>
lt (s_1.2 + (1 : Int32)) fun x_7 =>
some (Sum.inl (j_6, x_7))) else (
some (Sum.inr (s_1.1, s_1.2)))
def F_X9_highestLower (v_this_house_stones_cells : Nat → Int32) (v_this_house_stones_rows : Int32) : Option (Int32) :=
Option.bind (itr (B_X9_highestLower_4 v_this_house_stones_rows v_this_house_stones_cells) FU ((0 : Int32), (1 : Int32))) fun x_2 =>
some x_2.1

def B_X9_lowestUpper_4 (v_this_house_stones_rows : Int32) (v_this_house_stones_cells : Nat → Int32) (s_1 : Int32 × Int32) : Option ((Int32 × Int32) ⊕ (Int32 × Int32)) :=
if s_1.2 < v_this_house_stones_rows then (
Option.bind (F_X9_upperOf v_this_house_stones_cells v_this_house_stones_rows s_1.1) fun c_3 =>
Option.bind (F_X9_upperOf v_this_house_stones_cells v_this_house_stones_rows s_1.2) fun c_4 =>
Option.bind (F_X9_isAbove v_this_house_stones_cells v_this_house_stones_rows c_3 s_1.1 c_4 s_1.2) fun c_5 =>
Option.bind (if c_5 = 0 then (
some s_1.1) else (
some s_1.2)) fun j_6 =>
lt (s_1.2 + (1 : Int32)) fun x_7 =>
some (Sum.inl (j_6, x_7))) else (
some (Sum.inr (s_1.1, s_1.2)))
def F_X9_lowestUpper (v_this_house_stones_cells : Nat → Int32) (v_this_house_stones_rows : Int32) : Option (Int32) :=
Option.bind (itr (B_X9_lowestUpper_4 v_this_house_stones_rows v_this_house_stones_cells) FU ((0 : Int32), (1 : Int32))) fun x_2 =>
some x_2.1

def F_X9_stonesMeet (v_this_house_stones_cells : Nat → Int32) (v_this_house_stones_rows : Int32) : Option (Int32) :=
Option.bind (F_X9_highestLower v_this_house_stones_cells v_this_house_stones_rows) fun c_1 =>
Option.bind (F_X9_lowestUpper v_this_house_stones_cells v_this_house_stones_rows) fun c_2 =>
Option.bind (if 0 < v_this_house_stones_rows then (
Option.bind (F_X9_lowerOf v_this_house_stones_cells v_this_house_stones_rows c_1) fun c_4 =>
Option.bind (F_X9_upperOf v_this_house_stones_cells v_this_house_stones_rows c_2) fun c_5 =>
Option.bind (F_X9_isAbove v_this_house_stones_cells v_this_house_stones_rows c_4 c_1 c_5 c_2) fun c_6 =>
if c_6 = 0 then (
some (1 : Int32)) else (
some (0 : Int32))) else (
some (0 : Int32))) fun j_3 =>
Option.bind (bZ j_3) fun t_7 =>
some t_7

def B_X10_know_10 (v_this_house_told_rows : Int32) (v_this_house_told_cells : Nat → Int32) (p0 : Int32) (s_2 : Int32 × (Nat → Int32)) : Option ((Int32 × (Nat → Int32)) ⊕ (Int32 × (Nat → Int32))) :=
if s_2.1 < v_this_house_told_rows then (
Option.bind (F_X8_get 120 v_this_house_told_cells v_this_house_told_rows (3 : Int32) s_2.1 (1 : Int32)) fun c_4 =>
Option.bind (F_X8_get 120 v_this_house_told_cells v_this_house_told_rows (3 : Int32) s_2.1 (2 : Int32)) fun c_5 =>
Option.bind (if p0 < c_5 then (
some s_2.2) else (
if c_4 < 0 then (
some s_2.2) else (
if c_4 < (9 : Int32) then (
Option.bind (gI s_2.2 9 c_4) fun t_7 =>
Option.bind (F_X8_get 120 v_this_house_told_cells v_this_house_told_rows (3 : Int32) s_2.1 (0 : Int32)) fun c_8 =>
Option.bind (sI s_2.2 9 c_4 (t_7 ||| ((1 : Int32) <<< (c_8 &&& 31)))) fun g_9 =>
some g_9) else (
some s_2.2)))) fun j_6 =>
lt (s_2.1 + (1 : Int32)) fun x_10 =>
some (Sum.inl (x_10, j_6))) else (
some (Sum.inr (s_2.1, s_2.2)))
def B_X10_know_108 (s_11 : Int32 × (Nat → Int32)) (s_13 : Int32 × (Nat → Int32)) : Option ((Int32 × (Nat → Int32)) ⊕ (Int32 × (Nat → Int32))) :=
if s_13.1 < (9 : Int32) then (
Option.bind (gI s_13.2 9 s_13.1) fun t_15 =>
Option.bind (if ((t_15 >>> (s_11.1 &&& 31)) &&& (1 : Int32)) = (1 : Int32) then (
Option.bind (gI s_13.2 9 s_13.1) fun t_17 =>
Option.bind (gI s_13.2 9 s_11.1) fun t_18 =>
Option.bind (sI s_13.2 9 s_13.1 (t_17 ||| t_18)) fun g_19 =>
some g_19) else (
some s_13.2)) fun j_16 =>
lt (s_13.1 + (1 : Int32)) fun x_20 =>
some (Sum.inl (x_20, j_16))) else (
some (Sum.inr (s_13.1, s_13.2)))
def B_X10_know_97  (s_11 : Int32 × (Nat → Int32)) : Option ((Int32 × (Nat → Int32)) ⊕ (Int32 × (Nat → Int32))) :=
if s_11.1 < (9 : Int32) then (
Option.bind (itr (B_X10_know_108 s_11) FU ((0 : Int32), s_11.2)) fun x_14 =>
lt (s_11.1 + (1 : Int32)) fun x_21 =>
some (Sum.inl (x_21, x_14.2))) else (
some (Sum.inr (s_11.1, s_11.2)))
def F_X10_know (v_this_ahead : Nat → Int32) (v_this_house_told_cells : Nat → Int32) (v_this_house_told_rows : Int32) (p0 : Int32) : Option ((Nat → Int32)) :=
Option.bind (F_J7_fill_53178 9 v_this_ahead (0 : Int32)) fun c_1 =>
Option.bind (itr (B_X10_know_10 v_this_house_told_rows v_this_house_told_cells p0) FU ((0 : Int32), c_1)) fun x_3 =>
Option.bind (itr (B_X10_know_97) FU ((0 : Int32), x_3.2)) fun x_12 =>
some x_12.2

def F_X10_isNext (v_this_ahead : Nat → Int32) (p0 : Int32) (p1 : Int32) : Option (Int32) :=
Option.bind (if p0 < 0 then (
some (0 : Int32)) else (
if p0 < (9 : Int32) then (
Option.bind (gI v_this_ahead 9 p0) fun t_2 =>
if (t_2 &&& (p1 ^^^ (-1 : Int32))) = 0 then (
some (1 : Int32)) else (
some (0 : Int32))) else (
some (0 : Int32)))) fun j_1 =>
Option.bind (bZ j_1) fun t_3 =>
some t_3

def B_X10_countOrders_38 (v_this_house_names : Int32) (s_2 : Int32 × (Nat → Int32)) (v_this_ahead : Nat → Int32) (s_5 : Int32 × Int32) : Option ((Int32 × Int32) ⊕ (Int32 × Int32)) :=
if s_5.2 < v_this_house_names then (
lt (s_2.1 &&& (((1 : Int32) <<< (s_5.2 &&& 31)) ^^^ (-1 : Int32))) fun x_7 =>
Option.bind (if x_7 = s_2.1 then (
some s_5.1) else (
if x_7 < 0 then (
some s_5.1) else (
if x_7 < (512 : Int32) then (
Option.bind (F_X10_isNext v_this_ahead s_5.2 x_7) fun c_9 =>
if c_9 = 0 then (
some s_5.1) else (
Option.bind (gI s_2.2 512 x_7) fun t_10 =>
lt (s_5.1 + t_10) fun x_11 =>
some x_11)) else (
some s_5.1)))) fun j_8 =>
lt (s_5.2 + (1 : Int32)) fun x_12 =>
some (Sum.inl (j_8, x_12))) else (
some (Sum.inr (s_5.1, s_5.2)))
def B_X10_countOrders_20 (x_1 : Int32) (v_this_house_names : Int32) (v_this_ahead : Nat → Int32) (s_2 : Int32 × (Nat → Int32)) : Option ((Int32 × (Nat → Int32)) ⊕ (Int32 × (Nat → Int32))) :=
if s_2.1 < x_1 then (
Option.bind (if s_2.1 = 0 then (
some (1 : Int32)) else (
some (0 : Int32))) fun j_4 =>
Option.bind (itr (B_X10_countOrders_38 v_this_house_names s_2 v_this_ahead) FU (j_4, (0 : Int32))) fun x_6 =>
Option.bind (sI s_2.2 512 s_2.1 x_6.1) fun g_13 =>
lt (s_2.1 + (1 : Int32)) fun x_14 =>
some (Sum.inl (x_14, g_13))) else (
some (Sum.inr (s_2.1, s_2.2)))
def F_X10_countOrders (v_this_ahead : Nat → Int32) (v_this_found : Nat → Int32) (v_this_house_names : Int32) : Option (Int32 × (Nat → Int32)) :=
lt (if (512 : Int32) < ((1 : Int32) <<< (v_this_house_names &&& 31)) then (512 : Int32) else ((1 : Int32) <<< (v_this_house_names &&& 31))) fun x_1 =>
Option.bind (itr (B_X10_countOrders_20 x_1 v_this_house_names v_this_ahead) FU ((0 : Int32), v_this_found)) fun x_3 =>
Option.bind (if 0 < x_1 then (
if (512 : Int32) < x_1 then (
some (0 : Int32)) else (
Option.bind (gI x_3.2 512 (x_1 - (1 : Int32))) fun t_16 =>
some t_16)) else (
some (0 : Int32))) fun j_15 =>
some (j_15, x_3.2)

def B_X10_firstNext_2 (v_this_house_names : Int32) (p0 : Int32) (v_this_ahead : Nat → Int32) (s_1 : Int32) : Option ((Int32) ⊕ ((Int32) ⊕ (Int32))) :=
if s_1 < v_this_house_names then (
if ((p0 >>> (s_1 &&& 31)) &&& (1 : Int32)) = 0 then (
Option.bind (F_X10_isNext v_this_ahead s_1 p0) fun c_5 =>
if c_5 = 0 then (
lt (s_1 + (1 : Int32)) fun x_6 =>
some (Sum.inl x_6)) else (
some (Sum.inr (Sum.inr s_1)))) else (
lt (s_1 + (1 : Int32)) fun x_4 =>
some (Sum.inl x_4))) else (
some (Sum.inr (Sum.inl s_1)))
def F_X10_firstNext (v_this_ahead : Nat → Int32) (v_this_house_names : Int32) (p0 : Int32) : Option (Int32) :=
Option.bind (itr (B_X10_firstNext_2 v_this_house_names p0 v_this_ahead) FU (0 : Int32)) fun x_2 =>
sm x_2 (fun y_3 =>
some (-1 : Int32)) (fun z => z)

def B_X10_layFirstOrder_4 (v_this_house_names : Int32) (v_this_ahead : Nat → Int32) (s_1 : Int32 × Int32 × (Nat → Int32)) : Option ((Int32 × Int32 × (Nat → Int32)) ⊕ ((Int32 × Int32 × (Nat → Int32)) ⊕ (Int32 × (Nat → Int32)))) :=
if s_1.2.1 < v_this_house_names then (
if s_1.2.1 < (9 : Int32) then (
Option.bind (F_X10_firstNext v_this_ahead v_this_house_names s_1.1) fun c_4 =>
if c_4 = (-1 : Int32) then (
some (Sum.inr (Sum.inr ((0 : Int32), s_1.2.2)))) else (
Option.bind (sI s_1.2.2 9 s_1.2.1 c_4) fun g_5 =>
lt (s_1.1 ||| ((1 : Int32) <<< (c_4 &&& 31))) fun x_6 =>
lt (s_1.2.1 + (1 : Int32)) fun x_7 =>
some (Sum.inl (x_6, x_7, g_5)))) else (
some (Sum.inr (Sum.inl (s_1.1, s_1.2.1, s_1.2.2))))) else (
some (Sum.inr (Sum.inl (s_1.1, s_1.2.1, s_1.2.2))))
def F_X10_layFirstOrder (v_this_ahead : Nat → Int32) (v_this_house_names : Int32) (v_this_row : Nat → Int32) : Option (Int32 × (Nat → Int32)) :=
Option.bind (itr (B_X10_layFirstOrder_4 v_this_house_names v_this_ahead) FU ((0 : Int32), (0 : Int32), v_this_row)) fun x_2 =>
sm x_2 (fun y_3 =>
some ((1 : Int32), y_3.2.2)) (fun z => z)

def F_X10_nameAt (v_this_row : Nat → Int32) (p0 : Int32) : Option (Int32) :=
Option.bind (if p0 < 0 then (
some (-1 : Int32)) else (
if p0 < (9 : Int32) then (
Option.bind (gI v_this_row 9 p0) fun t_2 =>
some t_2) else (
some (-1 : Int32)))) fun j_1 =>
some j_1

def F_J6_bitCount_0f7a4 (p0 : Int32) : Option (Int32) :=
lt (p0 - (((p0.toUInt32 >>> ((1 : Int32).toUInt32 &&& Int32.toUInt32 31)).toInt32) &&& (1431655765 : Int32))) fun x_1 =>
lt ((x_1 &&& (858993459 : Int32)) + (((x_1.toUInt32 >>> ((2 : Int32).toUInt32 &&& Int32.toUInt32 31)).toInt32) &&& (858993459 : Int32))) fun x_2 =>
lt ((x_2 + ((x_2.toUInt32 >>> ((4 : Int32).toUInt32 &&& Int32.toUInt32 31)).toInt32)) &&& (252645135 : Int32)) fun x_3 =>
lt (x_3 + ((x_3.toUInt32 >>> ((8 : Int32).toUInt32 &&& Int32.toUInt32 31)).toInt32)) fun x_4 =>
lt (x_4 + ((x_4.toUInt32 >>> ((16 : Int32).toUInt32 &&& Int32.toUInt32 31)).toInt32)) fun x_5 =>
some (x_5 &&& (63 : Int32))

def F_X10_countAhead (v_this_ahead : Nat → Int32) (p0 : Int32) : Option (Int32) :=
Option.bind (if p0 < 0 then (
some (0 : Int32)) else (
if p0 < (9 : Int32) then (
Option.bind (gI v_this_ahead 9 p0) fun t_2 =>
Option.bind (F_J6_bitCount_0f7a4 t_2) fun c_3 =>
some c_3) else (
some (0 : Int32)))) fun j_1 =>
some j_1

def B_X10_countBehind_4 (v_this_house_names : Int32) (v_this_ahead : Nat → Int32) (p0 : Int32) (s_1 : Int32 × Int32) : Option ((Int32 × Int32) ⊕ (Int32 × Int32)) :=
if s_1.2 < v_this_house_names then (
if s_1.2 < (9 : Int32) then (
Option.bind (gI v_this_ahead 9 s_1.2) fun t_3 =>
lt (s_1.1 + ((t_3 >>> (p0 &&& 31)) &&& (1 : Int32))) fun x_4 =>
lt (s_1.2 + (1 : Int32)) fun x_5 =>
some (Sum.inl (x_4, x_5))) else (
some (Sum.inr (s_1.1, s_1.2)))) else (
some (Sum.inr (s_1.1, s_1.2)))
def F_X10_countBehind (v_this_ahead : Nat → Int32) (v_this_house_names : Int32) (p0 : Int32) : Option (Int32) :=
Option.bind (itr (B_X10_countBehind_4 v_this_house_names v_this_ahead p0) FU ((0 : Int32), (0 : Int32))) fun x_2 =>
some x_2.1

def F_X11_isOut (p0 : Int32) (p1 : Int32) (p2 : Int32) : Option (Int32) :=
Option.bind (if p0 < p1 then (
some (1 : Int32)) else (
if p2 < p0 then (
some (1 : Int32)) else (
some (0 : Int32)))) fun j_1 =>
Option.bind (bZ j_1) fun t_2 =>
some t_2

def F_X11_merchant (v_this_now_merchants_cells : Nat → Int32) (v_this_now_merchants_rows : Int32) (p0 : Int32) (p1 : Int32) : Option (Int32 × (Nat → Int32) × Int32) :=
Option.bind (F_X11_isOut p0 (0 : Int32) (4 : Int32)) fun c_1 =>
if c_1 = 0 then (
Option.bind (F_X11_isOut p1 (0 : Int32) (1 : Int32)) fun c_2 =>
if c_2 = 0 then (
Option.bind (F_X8_isFull (10 : Int32) v_this_now_merchants_rows) fun c_3 =>
if c_3 = 0 then (
Option.bind (F_X8_add 20 v_this_now_merchants_cells (10 : Int32) v_this_now_merchants_rows (2 : Int32) p0 p1 (0 : Int32) (0 : Int32) (0 : Int32)) fun c_4 =>
some (c_4.1, c_4.2.1, c_4.2.2)) else (
some ((-4 : Int32), v_this_now_merchants_cells, v_this_now_merchants_rows))) else (
some ((-2 : Int32), v_this_now_merchants_cells, v_this_now_merchants_rows))) else (
some ((-2 : Int32), v_this_now_merchants_cells, v_this_now_merchants_rows))

def F_X11_write (v_this_now_texts_cells : Nat → Int32) (v_this_now_texts_rows : Int32) (p0 : Int32) (p1 : Int32) : Option (Int32 × (Nat → Int32)) :=
Option.bind (F_X11_isOut p0 (0 : Int32) (3 : Int32)) fun c_1 =>
if c_1 = 0 then (
Option.bind (F_X11_isOut p1 (0 : Int32) (127 : Int32)) fun c_2 =>
if c_2 = 0 then (
Option.bind (F_X8_get 204 v_this_now_texts_cells v_this_now_texts_rows (51 : Int32) p0 (0 : Int32)) fun c_3 =>
if c_3 < (50 : Int32) then (
Option.bind (F_X8_set 204 v_this_now_texts_cells v_this_now_texts_rows (51 : Int32) p0 ((1 : Int32) + c_3) p1) fun c_4 =>
Option.bind (F_X8_set 204 c_4 v_this_now_texts_rows (51 : Int32) p0 (0 : Int32) (c_3 + (1 : Int32))) fun c_5 =>
some (c_3 + (1 : Int32), c_5)) else (
some ((-4 : Int32), v_this_now_texts_cells))) else (
some ((-2 : Int32), v_this_now_texts_cells))) else (
some ((-2 : Int32), v_this_now_texts_cells))

def F_X11_erase (v_this_now_texts_cells : Nat → Int32) (v_this_now_texts_rows : Int32) (p0 : Int32) : Option (Int32 × (Nat → Int32)) :=
Option.bind (F_X11_isOut p0 (0 : Int32) (3 : Int32)) fun c_1 =>
if c_1 = 0 then (
Option.bind (F_X8_get 204 v_this_now_texts_cells v_this_now_texts_rows (51 : Int32) p0 (0 : Int32)) fun c_2 =>
Option.bind (F_X8_set 204 v_this_now_texts_cells v_this_now_texts_rows (51 : Int32) p0 (0 : Int32) (0 : Int32)) fun c_3 =>
some (c_2, c_3)) else (
some ((-2 : Int32), v_this_now_texts_cells))

def F_X11_fault (v_this_now_texts_cells : Nat → Int32) (v_this_now_texts_rows : Int32) (v_this_reader_codes : Nat → Int32) (v_this_reader_count : Int32) (v_this_reader_digits : Int32) (v_this_reader_fault : Int32) (v_this_reader_firstDigit : Int32) (v_this_reader_number : Int32) (v_this_reader_open : Int32) (v_this_reader_unitIsDue : Int32) (v_this_reader_waiting : Nat → Int32) (v_this_reader_waits : Int32) (p0 : Int32) : Option (Int32 × (Nat → Int32) × Int32 × Int32 × Int32 × Int32 × Int32 × Int32 × Int32 × (Nat → Int32) × Int32) :=
Option.bind (F_X11_isOut p0 (0 : Int32) (3 : Int32)) fun c_1 =>
Option.bind (if c_1 = 0 then (
Option.bind (F_X7_read 204 v_this_now_texts_cells v_this_now_texts_rows (51 : Int32) v_this_reader_codes v_this_reader_count v_this_reader_digits v_this_reader_fault v_this_reader_firstDigit v_this_reader_number v_this_reader_open v_this_reader_unitIsDue v_this_reader_waiting v_this_reader_waits p0) fun c_3 =>
some (c_3.1, c_3.2.1, c_3.2.2.1, c_3.2.2.2.1, c_3.2.2.2.2.1, c_3.2.2.2.2.2.1, c_3.2.2.2.2.2.2.1, c_3.2.2.2.2.2.2.2.1, c_3.2.2.2.2.2.2.2.2.1, c_3.2.2.2.2.2.2.2.2.2.1, c_3.2.2.2.2.2.2.2.2.2.2)) else (
some ((-2 : Int32), v_this_reader_codes, v_this_reader_count, v_this_reader_digits, v_this_reader_fault, v_this_reader_firstDigit, v_this_reader_number, v_this_reader_open, v_this_reader_unitIsDue, v_this_reader_waiting, v_this_reader_waits))) fun j_2 =>
some (j_2.1, j_2.2.1, j_2.2.2.1, j_2.2.2.2.1, j_2.2.2.2.2.1, j_2.2.2.2.2.2.1, j_2.2.2.2.2.2.2.1, j_2.2.2.2.2.2.2.2.1, j_2.2.2.2.2.2.2.2.2.1, j_2.2.2.2.2.2.2.2.2.2.1, j_2.2.2.2.2.2.2.2.2.2.2)

def F_X11_isOutOfSeasons (p0 : Int32) : Option (Int32) :=
Option.bind (F_X11_isOut p0 (0 : Int32) (99 : Int32)) fun c_1 =>
Option.bind (bZ c_1) fun t_2 =>
some t_2

def F_X11_tells (v_this_law_about : Int64) (v_this_law_gate : Int32) (v_this_law_height : Int32) (v_this_law_kin : Int32) (v_this_law_season : Int32) (v_this_law_stack : Nat → Int64) (v_this_law_town : Int32) (v_this_now_texts_cells : Nat → Int32) (v_this_now_texts_rows : Int32) (v_this_reader_codes : Nat → Int32) (v_this_reader_count : Int32) (v_this_reader_digits : Int32) (v_this_reader_fault : Int32) (v_this_reader_firstDigit : Int32) (v_this_reader_number : Int32) (v_this_reader_open : Int32) (v_this_reader_unitIsDue : Int32) (v_this_reader_waiting : Nat → Int32) (v_this_reader_waits : Int32) (p0 : Int32) (p1 : Int32) (p2 : Int32) (p3 : Int32) (p4 : Int32) (p5 : Int64) : Option (Int64 × Int64 × Int32 × Int32 × Int32 × Int32 × (Nat → Int64) × Int32 × (Nat → Int32) × Int32 × Int32 × Int32 × Int32 × Int32 × Int32 × Int32 × (Nat → Int32) × Int32) :=
Option.bind (F_X11_isOut p0 (0 : Int32) (3 : Int32)) fun c_1 =>
if c_1 = 0 then (
Option.bind (F_X11_isOut p1 (0 : Int32) (5 : Int32)) fun c_2 =>
if c_2 = 0 then (
Option.bind (F_X11_isOut p2 (0 : Int32) (1 : Int32)) fun c_3 =>
if c_3 = 0 then (
Option.bind (F_X11_isOut p3 (0 : Int32) (1 : Int32)) fun c_4 =>
if c_4 = 0 then (
Option.bind (F_X11_isOutOfSeasons p4) fun c_5 =>
if c_5 = 0 then (
Option.bind (F_X7_read 204 v_this_now_texts_cells v_this_now_texts_rows (51 : Int32) v_this_reader_codes v_this_reader_count v_this_reader_digits v_this_reader_fault v_this_reader_firstDigit v_this_reader_number v_this_reader_open v_this_reader_unitIsDue v_this_reader_waiting v_this_reader_waits p0) fun c_6 =>
if c_6.1 = (-1 : Int32) then (
Option.bind (F_X1_meet v_this_law_about v_this_law_gate v_this_law_kin v_this_law_season v_this_law_town p1 p2 p3 p4 p5) fun c_7 =>
Option.bind (F_X1_run 50 c_6.2.1 c_7.1 c_7.2.1 v_this_law_height c_7.2.2.1 c_7.2.2.2.1 v_this_law_stack c_7.2.2.2.2 (0 : Int32) c_6.2.2.1) fun c_8 =>
some (c_8.1, c_7.1, c_7.2.1, c_8.2.1, c_7.2.2.1, c_7.2.2.2.1, c_8.2.2, c_7.2.2.2.2, c_6.2.1, c_6.2.2.1, c_6.2.2.2.1, c_6.2.2.2.2.1, c_6.2.2.2.2.2.1, c_6.2.2.2.2.2.2.1, c_6.2.2.2.2.2.2.2.1, c_6.2.2.2.2.2.2.2.2.1, c_6.2.2.2.2.2.2.2.2.2.1, c_6.2.2.2.2.2.2.2.2.2.2)) else (
some ((-3000000000000000000 : Int64), v_this_law_about, v_this_law_gate, v_this_law_height, v_this_law_kin, v_this_law_season, v_this_law_stack, v_this_law_town, c_6.2.1, c_6.2.2.1, c_6.2.2.2.1, c_6.2.2.2.2.1, c_6.2.2.2.2.2.1, c_6.2.2.2.2.2.2.1, c_6.2.2.2.2.2.2.2.1, c_6.2.2.2.2.2.2.2.2.1, c_6.2.2.2.2.2.2.2.2.2.1, c_6.2.2.2.2.2.2.2.2.2.2))) else (
some ((-2000000000000000000 : Int64), v_this_law_about, v_this_law_gate, v_this_law_height, v_this_law_kin, v_this_law_season, v_this_law_stack, v_this_law_town, v_this_reader_codes, v_this_reader_count, v_this_reader_digits, v_this_reader_fault, v_this_reader_firstDigit, v_this_reader_number, v_this_reader_open, v_this_reader_unitIsDue, v_this_reader_waiting, v_this_reader_waits))) else (
some ((-2000000000000000000 : Int64), v_this_law_about, v_this_law_gate, v_this_law_height, v_this_law_kin, v_this_law_season, v_this_law_stack, v_this_law_town, v_this_reader_codes, v_this_reader_count, v_this_reader_digits, v_this_reader_fault, v_this_reader_firstDigit, v_this_reader_number, v_this_reader_open, v_this_reader_unitIsDue, v_this_reader_waiting, v_this_reader_waits))) else (
some ((-2000000000000000000 : Int64), v_this_law_about, v_this_law_gate, v_this_law_height, v_this_law_kin, v_this_law_season, v_this_law_stack, v_this_law_town, v_this_reader_codes, v_this_reader_count, v_this_reader_digits, v_this_reader_fault, v_this_reader_firstDigit, v_this_reader_number, v_this_reader_open, v_this_reader_unitIsDue, v_this_reader_waiting, v_this_reader_waits))) else (
some ((-2000000000000000000 : Int64), v_this_law_about, v_this_law_gate, v_this_law_height, v_this_law_kin, v_this_law_season, v_this_law_stack, v_this_law_town, v_this_reader_codes, v_this_reader_count, v_this_reader_digits, v_this_reader_fault, v_this_reader_firstDigit, v_this_reader_number, v_this_reader_open, v_this_reader_unitIsDue, v_this_reader_waiting, v_this_reader_waits))) else (
some ((-2000000000000000000 : Int64), v_this_law_about, v_this_law_gate, v_this_law_height, v_this_law_kin, v_this_law_season, v_this_law_stack, v_this_law_town, v_this_reader_codes, v_this_reader_count, v_this_reader_digits, v_this_reader_fault, v_this_reader_firstDigit, v_this_reader_number, v_this_reader_open, v_this_reader_unitIsDue, v_this_reader_waiting, v_this_reader_waits))

def F_X11_act (v_this_now_acts_cells : Nat → Int32) (v_this_now_acts_rows : Int32) (v_this_now_texts_cells : Nat → Int32) (v_this_now_texts_rows : Int32) (v_this_reader_codes : Nat → Int32) (v_this_reader_count : Int32) (v_this_reader_digits : Int32) (v_this_reader_fault : Int32) (v_this_reader_firstDigit : Int32) (v_this_reader_number : Int32) (v_this_reader_open : Int32) (v_this_reader_unitIsDue : Int32) (v_this_reader_waiting : Nat → Int32) (v_this_reader_waits : Int32) (p0 : Int32) (p1 : Int32) (p2 : Int32) : Option (Int32 × (Nat → Int32) × Int32 × (Nat → Int32) × Int32 × Int32 × Int32 × Int32 × Int32 × Int32 × Int32 × (Nat → Int32) × Int32) :=
Option.bind (F_X11_isOut p0 (0 : Int32) (3 : Int32)) fun c_1 =>
if c_1 = 0 then (
Option.bind (F_X11_isOut p1 (0 : Int32) (2 : Int32)) fun c_2 =>
if c_2 = 0 then (
Option.bind (F_X11_isOutOfSeasons p2) fun c_3 =>
if c_3 = 0 then (
Option.bind (F_X7_read 204 v_this_now_texts_cells v_this_now_texts_rows (51 : Int32) v_this_reader_codes v_this_reader_count v_this_reader_digits v_this_reader_fault v_this_reader_firstDigit v_this_reader_number v_this_reader_open v_this_reader_unitIsDue v_this_reader_waiting v_this_reader_waits p0) fun c_4 =>
if c_4.1 = (-1 : Int32) then (
Option.bind (F_X8_isFull (16 : Int32) v_this_now_acts_rows) fun c_5 =>
if c_5 = 0 then (
Option.bind (F_X8_add 1664 v_this_now_acts_cells (16 : Int32) v_this_now_acts_rows (104 : Int32) p1 p2 (0 : Int32) (0 : Int32) (0 : Int32)) fun c_6 =>
Option.bind (F_X1_inscribe c_4.2.1 c_4.2.2.1 c_6.2.1 c_6.2.2 v_this_now_texts_cells v_this_now_texts_rows c_6.1 p0) fun c_7 =>
some (c_6.1, c_7, c_6.2.2, c_4.2.1, c_4.2.2.1, c_4.2.2.2.1, c_4.2.2.2.2.1, c_4.2.2.2.2.2.1, c_4.2.2.2.2.2.2.1, c_4.2.2.2.2.2.2.2.1, c_4.2.2.2.2.2.2.2.2.1, c_4.2.2.2.2.2.2.2.2.2.1, c_4.2.2.2.2.2.2.2.2.2.2)) else (
some ((-4 : Int32), v_this_now_acts_cells, v_this_now_acts_rows, c_4.2.1, c_4.2.2.1, c_4.2.2.2.1, c_4.2.2.2.2.1, c_4.2.2.2.2.2.1, c_4.2.2.2.2.2.2.1, c_4.2.2.2.2.2.2.2.1, c_4.2.2.2.2.2.2.2.2.1, c_4.2.2.2.2.2.2.2.2.2.1, c_4.2.2.2.2.2.2.2.2.2.2))) else (
some ((-3 : Int32), v_this_now_acts_cells, v_this_now_acts_rows, c_4.2.1, c_4.2.2.1, c_4.2.2.2.1, c_4.2.2.2.2.1, c_4.2.2.2.2.2.1, c_4.2.2.2.2.2.2.1, c_4.2.2.2.2.2.2.2.1, c_4.2.2.2.2.2.2.2.2.1, c_4.2.2.2.2.2.2.2.2.2.1, c_4.2.2.2.2.2.2.2.2.2.2))) else (
some ((-2 : Int32), v_this_now_acts_cells, v_this_now_acts_rows, v_this_reader_codes, v_this_reader_count, v_this_reader_digits, v_this_reader_fault, v_this_reader_firstDigit, v_this_reader_number, v_this_reader_open, v_this_reader_unitIsDue, v_this_reader_waiting, v_this_reader_waits))) else (
some ((-2 : Int32), v_this_now_acts_cells, v_this_now_acts_rows, v_this_reader_codes, v_this_reader_count, v_this_reader_digits, v_this_reader_fault, v_this_reader_firstDigit, v_this_reader_number, v_this_reader_open, v_this_reader_unitIsDue, v_this_reader_waiting, v_this_reader_waits))) else (
some ((-2 : Int32), v_this_now_acts_cells, v_this_now_acts_rows, v_this_reader_codes, v_this_reader_count, v_this_reader_digits, v_this_reader_fault, v_this_reader_firstDigit, v_this_reader_number, v_this_reader_open, v_this_reader_unitIsDue, v_this_reader_waiting, v_this_reader_waits))

def F_X11_force (v_this_now_acts_cells : Nat → Int32) (v_this_now_acts_rows : Int32) (p0 : Int32) (p1 : Int32) : Option (Int32) :=
Option.bind (F_X11_isOut p0 (0 : Int32) (2 : Int32)) fun c_1 =>
Option.bind (if c_1 = 0 then (
Option.bind (F_X11_isOutOfSeasons p1) fun c_3 =>
if c_3 = 0 then (
Option.bind (F_X1_inForce v_this_now_acts_cells v_this_now_acts_rows p0 p1) fun c_4 =>
some c_4) else (
some (-2 : Int32))) else (
some (-2 : Int32))) fun j_2 =>
some j_2

def F_X11_isNoMerchant (v_this_now_merchants_rows : Int32) (p0 : Int32) : Option (Int32) :=
Option.bind (F_X11_isOut p0 (0 : Int32) (v_this_now_merchants_rows - (1 : Int32))) fun c_1 =>
Option.bind (bZ c_1) fun t_2 =>
some t_2

def F_X11_debt (v_this_now_debts_cells : Nat → Int32) (v_this_now_debts_rows : Int32) (v_this_now_merchants_rows : Int32) (p0 : Int32) (p1 : Int32) (p2 : Int32) (p3 : Int32) (p4 : Int32) : Option (Int32 × (Nat → Int32) × Int32) :=
Option.bind (F_X11_isNoMerchant v_this_now_merchants_rows p0) fun c_1 =>
if c_1 = 0 then (
Option.bind (F_X11_isNoMerchant v_this_now_merchants_rows p1) fun c_2 =>
if c_2 = 0 then (
if p0 = p1 then (
some ((-2 : Int32), v_this_now_debts_cells, v_this_now_debts_rows)) else (
Option.bind (F_X11_isOut p2 (1 : Int32) (1000000 : Int32)) fun c_3 =>
if c_3 = 0 then (
Option.bind (F_X11_isOutOfSeasons p3) fun c_4 =>
if c_4 = 0 then (
Option.bind (F_X11_isOutOfSeasons p4) fun c_5 =>
if c_5 = 0 then (
if p4 < p3 then (
some ((-2 : Int32), v_this_now_debts_cells, v_this_now_debts_rows)) else (
Option.bind (F_X8_isFull (40 : Int32) v_this_now_debts_rows) fun c_6 =>
if c_6 = 0 then (
Option.bind (F_X8_add 280 v_this_now_debts_cells (40 : Int32) v_this_now_debts_rows (7 : Int32) p0 p1 p2 p3 p4) fun c_7 =>
Option.bind (F_X8_set 280 c_7.2.1 c_7.2.2 (7 : Int32) c_7.1 (5 : Int32) (-1 : Int32)) fun c_8 =>
Option.bind (F_X8_set 280 c_8 c_7.2.2 (7 : Int32) c_7.1 (6 : Int32) (-1 : Int32)) fun c_9 =>
some (c_7.1, c_9, c_7.2.2)) else (
some ((-4 : Int32), v_this_now_debts_cells, v_this_now_debts_rows)))) else (
some ((-2 : Int32), v_this_now_debts_cells, v_this_now_debts_rows))) else (
some ((-2 : Int32), v_this_now_debts_cells, v_this_now_debts_rows))) else (
some ((-2 : Int32), v_this_now_debts_cells, v_this_now_debts_rows)))) else (
some ((-2 : Int32), v_this_now_debts_cells, v_this_now_debts_rows))) else (
some ((-2 : Int32), v_this_now_debts_cells, v_this_now_debts_rows))

def F_X11_isNoDebt (v_this_now_debts_rows : Int32) (p0 : Int32) : Option (Int32) :=
Option.bind (F_X11_isOut p0 (0 : Int32) (v_this_now_debts_rows - (1 : Int32))) fun c_1 =>
Option.bind (bZ c_1) fun t_2 =>
some t_2

def F_X11_pay (v_this_now_debts_cells : Nat → Int32) (v_this_now_debts_rows : Int32) (v_this_now_payments_cells : Nat → Int32) (v_this_now_payments_rows : Int32) (p0 : Int32) (p1 : Int32) (p2 : Int32) : Option (Int32 × (Nat → Int32) × Int32) :=
Option.bind (F_X11_isNoDebt v_this_now_debts_rows p0) fun c_1 =>
if c_1 = 0 then (
Option.bind (F_X11_isOutOfSeasons p1) fun c_2 =>
if c_2 = 0 then (
Option.bind (F_X11_isOut p2 (1 : Int32) (1000000 : Int32)) fun c_3 =>
if c_3 = 0 then (
Option.bind (F_X8_get 280 v_this_now_debts_cells v_this_now_debts_rows (7 : Int32) p0 (3 : Int32)) fun c_4 =>
if p1 < c_4 then (
some ((-2 : Int32), v_this_now_payments_cells, v_this_now_payments_rows)) else (
Option.bind (F_X8_isFull (60 : Int32) v_this_now_payments_rows) fun c_5 =>
if c_5 = 0 then (
Option.bind (F_X8_add 180 v_this_now_payments_cells (60 : Int32) v_this_now_payments_rows (3 : Int32) p0 p1 p2 (0 : Int32) (0 : Int32)) fun c_6 =>
some (c_6.1 + (1 : Int32), c_6.2.1, c_6.2.2)) else (
some ((-4 : Int32), v_this_now_payments_cells, v_this_now_payments_rows)))) else (
some ((-2 : Int32), v_this_now_payments_cells, v_this_now_payments_rows))) else (
some ((-2 : Int32), v_this_now_payments_cells, v_this_now_payments_rows))) else (
some ((-2 : Int32), v_this_now_payments_cells, v_this_now_payments_rows))

def F_X11_seal (v_this_now_debts_cells : Nat → Int32) (v_this_now_debts_rows : Int32) (p0 : Int32) (p1 : Int32) : Option (Int32 × (Nat → Int32)) :=
Option.bind (F_X11_isNoDebt v_this_now_debts_rows p0) fun c_1 =>
if c_1 = 0 then (
Option.bind (F_X11_isOut p1 (1 : Int32) (1000000 : Int32)) fun c_2 =>
if c_2 = 0 then (
Option.bind (F_X8_get 280 v_this_now_debts_cells v_this_now_debts_rows (7 : Int32) p0 (5 : Int32)) fun c_3 =>
if c_3 = (-1 : Int32) then (
Option.bind (F_X8_set 280 v_this_now_debts_cells v_this_now_debts_rows (7 : Int32) p0 (5 : Int32) p1) fun c_4 =>
some ((1 : Int32), c_4)) else (
some ((-3 : Int32), v_this_now_debts_cells))) else (
some ((-2 : Int32), v_this_now_debts_cells))) else (
some ((-2 : Int32), v_this_now_debts_cells))

def F_X11_breaks (v_this_now_debts_cells : Nat → Int32) (v_this_now_debts_rows : Int32) (p0 : Int32) (p1 : Int32) : Option (Int32 × (Nat → Int32)) :=
Option.bind (F_X11_isNoDebt v_this_now_debts_rows p0) fun c_1 =>
if c_1 = 0 then (
Option.bind (F_X11_isOutOfSeasons p1) fun c_2 =>
if c_2 = 0 then (
Option.bind (F_X8_get 280 v_this_now_debts_cells v_this_now_debts_rows (7 : Int32) p0 (5 : Int32)) fun c_3 =>
if c_3 = (-1 : Int32) then (
some ((-3 : Int32), v_this_now_debts_cells)) else (
Option.bind (F_X8_get 280 v_this_now_debts_cells v_this_now_debts_rows (7 : Int32) p0 (6 : Int32)) fun c_4 =>
if c_4 = (-1 : Int32) then (
Option.bind (F_X8_set 280 v_this_now_debts_cells v_this_now_debts_rows (7 : Int32) p0 (6 : Int32) p1) fun c_5 =>
some ((1 : Int32), c_5)) else (
some ((-3 : Int32), v_this_now_debts_cells)))) else (
some ((-2 : Int32), v_this_now_debts_cells))) else (
some ((-2 : Int32), v_this_now_debts_cells))

def F_X11_owed (v_this_law_about : Int64) (v_this_law_gate : Int32) (v_this_law_height : Int32) (v_this_law_kin : Int32) (v_this_law_season : Int32) (v_this_law_stack : Nat → Int64) (v_this_law_town : Int32) (v_this_ledger_paid : Nat → Int64) (v_this_now_acts_cells : Nat → Int32) (v_this_now_acts_rows : Int32) (v_this_now_debts_cells : Nat → Int32) (v_this_now_debts_rows : Int32) (v_this_now_merchants_cells : Nat → Int32) (v_this_now_merchants_rows : Int32) (v_this_now_payments_cells : Nat → Int32) (v_this_now_payments_rows : Int32) (p0 : Int32) (p1 : Int32) : Option (Int64 × Int64 × Int32 × Int32 × Int32 × Int32 × (Nat → Int64) × Int32 × (Nat → Int64)) :=
Option.bind (F_X11_isNoDebt v_this_now_debts_rows p0) fun c_1 =>
Option.bind (if c_1 = 0 then (
Option.bind (F_X11_isOutOfSeasons p1) fun c_3 =>
if c_3 = 0 then (
Option.bind (F_X2_left v_this_now_acts_cells v_this_now_acts_rows v_this_now_debts_cells v_this_now_debts_rows v_this_now_merchants_cells v_this_now_merchants_rows v_this_now_payments_cells v_this_now_payments_rows v_this_law_about v_this_law_gate v_this_law_height v_this_law_kin v_this_law_season v_this_law_stack v_this_law_town v_this_ledger_paid p0 p1) fun c_4 =>
some (c_4.1, c_4.2.1, c_4.2.2.1, c_4.2.2.2.1, c_4.2.2.2.2.1, c_4.2.2.2.2.2.1, c_4.2.2.2.2.2.2.1, c_4.2.2.2.2.2.2.2.1, c_4.2.2.2.2.2.2.2.2)) else (
some ((-2 : Int64), v_this_law_about, v_this_law_gate, v_this_law_height, v_this_law_kin, v_this_law_season, v_this_law_stack, v_this_law_town, v_this_ledger_paid))) else (
some ((-2 : Int64), v_this_law_about, v_this_law_gate, v_this_law_height, v_this_law_kin, v_this_law_season, v_this_law_stack, v_this_law_town, v_this_ledger_paid))) fun j_2 =>
some (j_2.1, j_2.2.1, j_2.2.2.1, j_2.2.2.2.1, j_2.2.2.2.2.1, j_2.2.2.2.2.2.1, j_2.2.2.2.2.2.2.1, j_2.2.2.2.2.2.2.2.1, j_2.2.2.2.2.2.2.2.2)

def F_X11_purse (v_this_now_merchants_rows : Int32) (v_this_now_purses_cells : Nat → Int32) (v_this_now_purses_rows : Int32) (p0 : Int32) (p1 : Int32) (p2 : Int32) : Option (Int32 × (Nat → Int32) × Int32) :=
Option.bind (F_X11_isNoMerchant v_this_now_merchants_rows p0) fun c_1 =>
if c_1 = 0 then (
Option.bind (F_X11_isOutOfSeasons p1) fun c_2 =>
if c_2 = 0 then (
Option.bind (F_X11_isOut p2 (1 : Int32) (10000 : Int32)) fun c_3 =>
if c_3 = 0 then (
Option.bind (F_X8_isFull (3 : Int32) v_this_now_purses_rows) fun c_4 =>
if c_4 = 0 then (
Option.bind (F_X8_add 39 v_this_now_purses_cells (3 : Int32) v_this_now_purses_rows (13 : Int32) p0 p1 p2 (0 : Int32) (0 : Int32)) fun c_5 =>
some (c_5.1, c_5.2.1, c_5.2.2)) else (
some ((-4 : Int32), v_this_now_purses_cells, v_this_now_purses_rows))) else (
some ((-2 : Int32), v_this_now_purses_cells, v_this_now_purses_rows))) else (
some ((-2 : Int32), v_this_now_purses_cells, v_this_now_purses_rows))) else (
some ((-2 : Int32), v_this_now_purses_cells, v_this_now_purses_rows))

def F_X11_isNoPurse (v_this_now_purses_rows : Int32) (p0 : Int32) : Option (Int32) :=
Option.bind (F_X11_isOut p0 (0 : Int32) (v_this_now_purses_rows - (1 : Int32))) fun c_1 =>
Option.bind (bZ c_1) fun t_2 =>
some t_2

def F_X11_share (v_this_now_merchants_rows : Int32) (v_this_now_purses_cells : Nat → Int32) (v_this_now_purses_rows : Int32) (p0 : Int32) (p1 : Int32) (p2 : Int32) : Option (Int32 × (Nat → Int32)) :=
Option.bind (F_X11_isNoPurse v_this_now_purses_rows p0) fun c_1 =>
if c_1 = 0 then (
Option.bind (F_X11_isNoMerchant v_this_now_merchants_rows p1) fun c_2 =>
if c_2 = 0 then (
Option.bind (F_X11_isOut p2 (1 : Int32) (30 : Int32)) fun c_3 =>
if c_3 = 0 then (
Option.bind (F_X2_sharesOfAll v_this_now_merchants_rows v_this_now_purses_cells v_this_now_purses_rows p0) fun c_4 =>
if (30 : Int32) < (c_4 + p2) then (
some ((-3 : Int32), v_this_now_purses_cells)) else (
Option.bind (F_X8_get 39 v_this_now_purses_cells v_this_now_purses_rows (13 : Int32) p0 ((3 : Int32) + p1)) fun c_5 =>
lt (c_5 + p2) fun x_6 =>
Option.bind (F_X8_set 39 v_this_now_purses_cells v_this_now_purses_rows (13 : Int32) p0 ((3 : Int32) + p1) x_6) fun c_7 =>
some (x_6, c_7))) else (
some ((-2 : Int32), v_this_now_purses_cells))) else (
some ((-2 : Int32), v_this_now_purses_cells))) else (
some ((-2 : Int32), v_this_now_purses_cells))

def F_X11_leave (v_this_law_about : Int64) (v_this_law_gate : Int32) (v_this_law_height : Int32) (v_this_law_kin : Int32) (v_this_law_season : Int32) (v_this_law_stack : Nat → Int64) (v_this_law_town : Int32) (v_this_now_acts_cells : Nat → Int32) (v_this_now_acts_rows : Int32) (v_this_now_merchants_cells : Nat → Int32) (v_this_now_merchants_rows : Int32) (v_this_now_purses_cells : Nat → Int32) (v_this_now_purses_rows : Int32) (p0 : Int32) (p1 : Int32) (p2 : Int32) : Option (Int32 × Int64 × Int32 × Int32 × Int32 × Int32 × (Nat → Int64) × Int32 × (Nat → Int32)) :=
Option.bind (F_X11_isNoPurse v_this_now_purses_rows p0) fun c_1 =>
if c_1 = 0 then (
Option.bind (F_X11_isNoMerchant v_this_now_merchants_rows p1) fun c_2 =>
if c_2 = 0 then (
Option.bind (F_X11_isOutOfSeasons p2) fun c_3 =>
if c_3 = 0 then (
Option.bind (F_X8_get 39 v_this_now_purses_cells v_this_now_purses_rows (13 : Int32) p0 (1 : Int32)) fun c_4 =>
if p2 < c_4 then (
Option.bind (F_X8_get 39 v_this_now_purses_cells v_this_now_purses_rows (13 : Int32) p0 ((3 : Int32) + p1)) fun c_5 =>
if c_5 = 0 then (
some ((-3 : Int32), v_this_law_about, v_this_law_gate, v_this_law_height, v_this_law_kin, v_this_law_season, v_this_law_stack, v_this_law_town, v_this_now_purses_cells)) else (
Option.bind (F_X2_takenBy v_this_now_acts_cells v_this_now_acts_rows v_this_now_merchants_cells v_this_now_merchants_rows v_this_now_purses_cells v_this_now_purses_rows v_this_law_about v_this_law_gate v_this_law_height v_this_law_kin v_this_law_season v_this_law_stack v_this_law_town p0 p1 p2) fun c_6 =>
Option.bind (F_X8_set 39 v_this_now_purses_cells v_this_now_purses_rows (13 : Int32) p0 ((3 : Int32) + p1) (0 : Int32)) fun c_7 =>
some (c_6.1, c_6.2.1, c_6.2.2.1, c_6.2.2.2.1, c_6.2.2.2.2.1, c_6.2.2.2.2.2.1, c_6.2.2.2.2.2.2.1, c_6.2.2.2.2.2.2.2, c_7))) else (
some ((-2 : Int32), v_this_law_about, v_this_law_gate, v_this_law_height, v_this_law_kin, v_this_law_season, v_this_law_stack, v_this_law_town, v_this_now_purses_cells))) else (
some ((-2 : Int32), v_this_law_about, v_this_law_gate, v_this_law_height, v_this_law_kin, v_this_law_season, v_this_law_stack, v_this_law_town, v_this_now_purses_cells))) else (
some ((-2 : Int32), v_this_law_about, v_this_law_gate, v_this_law_height, v_this_law_kin, v_this_law_season, v_this_law_stack, v_this_law_town, v_this_now_purses_cells))) else (
some ((-2 : Int32), v_this_law_about, v_this_law_gate, v_this_law_height, v_this_law_kin, v_this_law_season, v_this_law_stack, v_this_law_town, v_this_now_purses_cells))

def F_X11_parted (v_this_now_merchants_rows : Int32) (v_this_now_purses_cells : Nat → Int32) (v_this_now_purses_rows : Int32) (p0 : Int32) (p1 : Int32) (p2 : Int32) : Option (Int32) :=
Option.bind (F_X11_isNoPurse v_this_now_purses_rows p0) fun c_1 =>
if c_1 = 0 then (
Option.bind (F_X11_isOut p1 (0 : Int32) (100000000 : Int32)) fun c_2 =>
if c_2 = 0 then (
Option.bind (F_X11_isNoMerchant v_this_now_merchants_rows p2) fun c_3 =>
if c_3 = 0 then (
Option.bind (F_X2_partOf v_this_now_merchants_rows v_this_now_purses_cells v_this_now_purses_rows p0 p1 p2) fun c_4 =>
some c_4) else (
some (-2 : Int32))) else (
some (-2 : Int32))) else (
some (-2 : Int32))

def F_X11_gate (v_this_now_gates_cells : Nat → Int32) (v_this_now_gates_rows : Int32) (p0 : Int32) : Option (Int32 × (Nat → Int32) × Int32) :=
Option.bind (F_X11_isOut p0 (0 : Int32) (1 : Int32)) fun c_1 =>
if c_1 = 0 then (
Option.bind (F_X8_isFull (6 : Int32) v_this_now_gates_rows) fun c_2 =>
if c_2 = 0 then (
Option.bind (F_X8_add 6 v_this_now_gates_cells (6 : Int32) v_this_now_gates_rows (1 : Int32) p0 (0 : Int32) (0 : Int32) (0 : Int32) (0 : Int32)) fun c_3 =>
some (c_3.1 + (1 : Int32), c_3.2.1, c_3.2.2)) else (
some ((-4 : Int32), v_this_now_gates_cells, v_this_now_gates_rows))) else (
some ((-2 : Int32), v_this_now_gates_cells, v_this_now_gates_rows))

def F_X11_isNoLoad (v_this_now_merchants_rows : Int32) (p0 : Int32) (p1 : Int32) : Option (Int32) :=
Option.bind (F_X11_isNoMerchant v_this_now_merchants_rows p0) fun c_1 =>
Option.bind (if c_1 = 0 then (
Option.bind (F_X11_isOut p1 (1 : Int32) (1000000 : Int32)) fun c_3 =>
if c_3 = 0 then (
some (0 : Int32)) else (
some (1 : Int32))) else (
some (1 : Int32))) fun j_2 =>
Option.bind (bZ j_2) fun t_4 =>
some t_4

def F_X11_wide (v_this_law_about : Int64) (v_this_law_gate : Int32) (v_this_law_height : Int32) (v_this_law_kin : Int32) (v_this_law_season : Int32) (v_this_law_stack : Nat → Int64) (v_this_law_town : Int32) (v_this_now_acts_cells : Nat → Int32) (v_this_now_acts_rows : Int32) (v_this_now_gates_cells : Nat → Int32) (v_this_now_gates_rows : Int32) (v_this_now_merchants_cells : Nat → Int32) (v_this_now_merchants_rows : Int32) (p0 : Int32) (p1 : Int32) (p2 : Int32) : Option (Int32 × Int64 × Int32 × Int32 × Int32 × Int32 × (Nat → Int64) × Int32) :=
Option.bind (F_X11_isNoLoad v_this_now_merchants_rows p0 p1) fun c_1 =>
Option.bind (if c_1 = 0 then (
Option.bind (F_X11_isOutOfSeasons p2) fun c_3 =>
if c_3 = 0 then (
Option.bind (F_X9_leftByGates v_this_now_acts_cells v_this_now_acts_rows v_this_now_gates_cells v_this_now_gates_rows v_this_now_merchants_cells v_this_now_merchants_rows v_this_law_about v_this_law_gate v_this_law_height v_this_law_kin v_this_law_season v_this_law_stack v_this_law_town p0 p1 p2) fun c_4 =>
some (c_4.1, c_4.2.1, c_4.2.2.1, c_4.2.2.2.1, c_4.2.2.2.2.1, c_4.2.2.2.2.2.1, c_4.2.2.2.2.2.2.1, c_4.2.2.2.2.2.2.2)) else (
some ((-2 : Int32), v_this_law_about, v_this_law_gate, v_this_law_height, v_this_law_kin, v_this_law_season, v_this_law_stack, v_this_law_town))) else (
some ((-2 : Int32), v_this_law_about, v_this_law_gate, v_this_law_height, v_this_law_kin, v_this_law_season, v_this_law_stack, v_this_law_town))) fun j_2 =>
some (j_2.1, j_2.2.1, j_2.2.2.1, j_2.2.2.2.1, j_2.2.2.2.2.1, j_2.2.2.2.2.2.1, j_2.2.2.2.2.2.2.1, j_2.2.2.2.2.2.2.2)

def F_X11_narrow (v_this_now_narrow : Int32) (p0 : Int32) : Option (Int32 × Int32) :=
Option.bind (F_X11_isOut p0 (2 : Int32) (100 : Int32)) fun c_1 =>
if c_1 = 0 then (
some (v_this_now_narrow, p0)) else (
some ((-2 : Int32), v_this_now_narrow))

def B_X11_greatestDivisor_9  (s_1 : Int64 × Int64 × Int32) : Option ((Int64 × Int64 × Int32) ⊕ (Int64 × Int64 × Int32)) :=
if s_1.2.2 < (1000 : Int32) then (
if s_1.2.1 = (0 : Int64) then (
some (Sum.inr (s_1.1, s_1.2.1, s_1.2.2))) else (
Option.bind (mL s_1.1 s_1.2.1) fun t_3 =>
lt (s_1.2.2 + (1 : Int32)) fun x_4 =>
some (Sum.inl (s_1.2.1, t_3, x_4)))) else (
some (Sum.inr (s_1.1, s_1.2.1, s_1.2.2)))
def F_X11_greatestDivisor (p0 : Int64) (p1 : Int64) : Option (Int64) :=
Option.bind (itr (B_X11_greatestDivisor_9) FU (p0, p1, (0 : Int32))) fun x_2 =>
some x_2.1

def F_X11_setFraction (v_this_above : Int64) (v_this_below : Int64) (p0 : Int64) (p1 : Int64) : Option (Int64 × Int64) :=
Option.bind (F_X11_greatestDivisor p0 p1) fun c_1 =>
Option.bind (if (0 : Int64) < c_1 then (
Option.bind (qL p0 c_1) fun t_3 =>
Option.bind (qL p1 c_1) fun t_4 =>
some (t_3, t_4)) else (
some (v_this_above, v_this_below))) fun j_2 =>
some (j_2.1, j_2.2)

def F_X11_mean (v_this_above : Int64) (v_this_below : Int64) (v_this_now_narrow : Int32) (p0 : Int32) : Option (Int32 × Int64 × Int64) :=
Option.bind (F_X11_isOut p0 (1 : Int32) (1000000 : Int32)) fun c_1 =>
if c_1 = 0 then (
Option.bind (F_X11_setFraction v_this_above v_this_below (p0.toInt64 * ((v_this_now_narrow - (1 : Int32)).toInt64)) v_this_now_narrow.toInt64) fun c_2 =>
some ((1 : Int32), c_2.1, c_2.2)) else (
some ((-2 : Int32), v_this_above, v_this_below))

def F_X11_better (v_this_law_about : Int64) (v_this_law_gate : Int32) (v_this_law_height : Int32) (v_this_law_kin : Int32) (v_this_law_season : Int32) (v_this_law_stack : Nat → Int64) (v_this_law_town : Int32) (v_this_now_acts_cells : Nat → Int32) (v_this_now_acts_rows : Int32) (v_this_now_gates_cells : Nat → Int32) (v_this_now_gates_rows : Int32) (v_this_now_merchants_cells : Nat → Int32) (v_this_now_merchants_rows : Int32) (v_this_now_narrow : Int32) (p0 : Int32) (p1 : Int32) (p2 : Int32) : Option (Int32 × Int64 × Int32 × Int32 × Int32 × Int32 × (Nat → Int64) × Int32) :=
Option.bind (F_X11_isNoLoad v_this_now_merchants_rows p0 p1) fun c_1 =>
if c_1 = 0 then (
Option.bind (F_X11_isOutOfSeasons p2) fun c_2 =>
if c_2 = 0 then (
Option.bind (F_X9_leftByGates v_this_now_acts_cells v_this_now_acts_rows v_this_now_gates_cells v_this_now_gates_rows v_this_now_merchants_cells v_this_now_merchants_rows v_this_law_about v_this_law_gate v_this_law_height v_this_law_kin v_this_law_season v_this_law_stack v_this_law_town p0 p1 p2) fun c_3 =>
Option.bind (if (c_3.1.toInt64 * v_this_now_narrow.toInt64) < (p1.toInt64 * ((v_this_now_narrow - (1 : Int32)).toInt64)) then (
some (1 : Int32)) else (
some (0 : Int32))) fun j_4 =>
some (j_4, c_3.2.1, c_3.2.2.1, c_3.2.2.2.1, c_3.2.2.2.2.1, c_3.2.2.2.2.2.1, c_3.2.2.2.2.2.2.1, c_3.2.2.2.2.2.2.2)) else (
some ((-2 : Int32), v_this_law_about, v_this_law_gate, v_this_law_height, v_this_law_kin, v_this_law_season, v_this_law_stack, v_this_law_town))) else (
some ((-2 : Int32), v_this_law_about, v_this_law_gate, v_this_law_height, v_this_law_kin, v_this_law_season, v_this_law_stack, v_this_law_town))

def F_X11_stone (v_this_now_stones_cells : Nat → Int32) (v_this_now_stones_rows : Int32) (p0 : Int32) (p1 : Int32) (p2 : Int32) : Option (Int32 × (Nat → Int32) × Int32) :=
Option.bind (F_X11_isOut p0 (1 : Int32) (10000 : Int32)) fun c_1 =>
if c_1 = 0 then (
Option.bind (F_X11_isOut p1 (1 : Int32) (10000 : Int32)) fun c_2 =>
if c_2 = 0 then (
Option.bind (F_X11_isOut p2 (0 : Int32) (p1 - (1 : Int32))) fun c_3 =>
if c_3 = 0 then (
Option.bind (F_X8_isFull (12 : Int32) v_this_now_stones_rows) fun c_4 =>
if c_4 = 0 then (
Option.bind (F_X8_add 36 v_this_now_stones_cells (12 : Int32) v_this_now_stones_rows (3 : Int32) p0 p1 p2 (0 : Int32) (0 : Int32)) fun c_5 =>
some (c_5.1 + (1 : Int32), c_5.2.1, c_5.2.2)) else (
some ((-4 : Int32), v_this_now_stones_cells, v_this_now_stones_rows))) else (
some ((-2 : Int32), v_this_now_stones_cells, v_this_now_stones_rows))) else (
some ((-2 : Int32), v_this_now_stones_cells, v_this_now_stones_rows))) else (
some ((-2 : Int32), v_this_now_stones_cells, v_this_now_stones_rows))

def F_X11_span (v_this_above : Int64) (v_this_below : Int64) (v_this_now_stones_cells : Nat → Int32) (v_this_now_stones_rows : Int32) (p0 : Int32) (p1 : Int32) : Option (Int32 × Int64 × Int64) :=
Option.bind (F_X11_isOut p0 (1 : Int32) (1000000 : Int32)) fun c_1 =>
if c_1 = 0 then (
Option.bind (F_X11_isOut p1 (0 : Int32) (1 : Int32)) fun c_2 =>
if c_2 = 0 then (
Option.bind (F_X9_stonesMeet v_this_now_stones_cells v_this_now_stones_rows) fun c_3 =>
if c_3 = 0 then (
some ((0 : Int32), v_this_above, v_this_below)) else (
Option.bind (if p1 = 0 then (
Option.bind (F_X9_highestLower v_this_now_stones_cells v_this_now_stones_rows) fun c_6 =>
some c_6) else (
Option.bind (F_X9_lowestUpper v_this_now_stones_cells v_this_now_stones_rows) fun c_5 =>
some c_5)) fun j_4 =>
Option.bind (if p1 = 0 then (
Option.bind (F_X9_lowerOf v_this_now_stones_cells v_this_now_stones_rows j_4) fun c_9 =>
some c_9) else (
Option.bind (F_X9_upperOf v_this_now_stones_cells v_this_now_stones_rows j_4) fun c_8 =>
some c_8)) fun j_7 =>
Option.bind (F_X8_get 36 v_this_now_stones_cells v_this_now_stones_rows (3 : Int32) j_4 (0 : Int32)) fun c_10 =>
Option.bind (F_X11_setFraction v_this_above v_this_below (p0.toInt64 * j_7) c_10.toInt64) fun c_11 =>
some ((1 : Int32), c_11.1, c_11.2))) else (
some ((-2 : Int32), v_this_above, v_this_below))) else (
some ((-2 : Int32), v_this_above, v_this_below))

def F_X11_balance (v_this_law_about : Int64) (v_this_law_gate : Int32) (v_this_law_height : Int32) (v_this_law_kin : Int32) (v_this_law_season : Int32) (v_this_law_stack : Nat → Int64) (v_this_law_town : Int32) (v_this_ledger_paid : Nat → Int64) (v_this_nets_balances : Nat → Int64) (v_this_nets_pairs : Nat → Int64) (v_this_now_acts_cells : Nat → Int32) (v_this_now_acts_rows : Int32) (v_this_now_debts_cells : Nat → Int32) (v_this_now_debts_rows : Int32) (v_this_now_merchants_cells : Nat → Int32) (v_this_now_merchants_rows : Int32) (v_this_now_payments_cells : Nat → Int32) (v_this_now_payments_rows : Int32) (p0 : Int32) (p1 : Int32) : Option (Int64 × Int64 × Int32 × Int32 × Int32 × Int32 × (Nat → Int64) × Int32 × (Nat → Int64) × (Nat → Int64) × (Nat → Int64)) :=
Option.bind (F_X11_isNoMerchant v_this_now_merchants_rows p0) fun c_1 =>
if c_1 = 0 then (
Option.bind (F_X11_isOutOfSeasons p1) fun c_2 =>
if c_2 = 0 then (
Option.bind (F_X4_weigh v_this_nets_balances v_this_now_acts_cells v_this_now_acts_rows v_this_now_debts_cells v_this_now_debts_rows v_this_now_merchants_cells v_this_now_merchants_rows v_this_now_payments_cells v_this_now_payments_rows v_this_law_about v_this_law_gate v_this_law_height v_this_law_kin v_this_law_season v_this_law_stack v_this_law_town v_this_ledger_paid v_this_nets_pairs p1) fun c_3 =>
Option.bind (F_X4_of c_3.1 p0) fun c_4 =>
some (c_4, c_3.2.1, c_3.2.2.1, c_3.2.2.2.1, c_3.2.2.2.2.1, c_3.2.2.2.2.2.1, c_3.2.2.2.2.2.2.1, c_3.2.2.2.2.2.2.2.1, c_3.2.2.2.2.2.2.2.2.1, c_3.1, c_3.2.2.2.2.2.2.2.2.2)) else (
some ((-9000000000000000000 : Int64), v_this_law_about, v_this_law_gate, v_this_law_height, v_this_law_kin, v_this_law_season, v_this_law_stack, v_this_law_town, v_this_ledger_paid, v_this_nets_balances, v_this_nets_pairs))) else (
some ((-9000000000000000000 : Int64), v_this_law_about, v_this_law_gate, v_this_law_height, v_this_law_kin, v_this_law_season, v_this_law_stack, v_this_law_town, v_this_ledger_paid, v_this_nets_balances, v_this_nets_pairs))

def F_X11_fewest (v_this_law_about : Int64) (v_this_law_gate : Int32) (v_this_law_height : Int32) (v_this_law_kin : Int32) (v_this_law_season : Int32) (v_this_law_stack : Nat → Int64) (v_this_law_town : Int32) (v_this_ledger_paid : Nat → Int64) (v_this_nets_balances : Nat → Int64) (v_this_nets_pairs : Nat → Int64) (v_this_nets_sets : Nat → Int32) (v_this_nets_sums : Nat → Int64) (v_this_nets_uneven : Nat → Int64) (v_this_now_acts_cells : Nat → Int32) (v_this_now_acts_rows : Int32) (v_this_now_debts_cells : Nat → Int32) (v_this_now_debts_rows : Int32) (v_this_now_merchants_cells : Nat → Int32) (v_this_now_merchants_rows : Int32) (v_this_now_payments_cells : Nat → Int32) (v_this_now_payments_rows : Int32) (p0 : Int32) : Option (Int32 × Int64 × Int32 × Int32 × Int32 × Int32 × (Nat → Int64) × Int32 × (Nat → Int64) × (Nat → Int64) × (Nat → Int64) × (Nat → Int32) × (Nat → Int64) × (Nat → Int64)) :=
Option.bind (F_X11_isOutOfSeasons p0) fun c_1 =>
if c_1 = 0 then (
Option.bind (F_X4_weigh v_this_nets_balances v_this_now_acts_cells v_this_now_acts_rows v_this_now_debts_cells v_this_now_debts_rows v_this_now_merchants_cells v_this_now_merchants_rows v_this_now_payments_cells v_this_now_payments_rows v_this_law_about v_this_law_gate v_this_law_height v_this_law_kin v_this_law_season v_this_law_stack v_this_law_town v_this_ledger_paid v_this_nets_pairs p0) fun c_2 =>
Option.bind (F_X4_fewestPayments c_2.1 v_this_nets_sets v_this_nets_sums v_this_nets_uneven) fun c_3 =>
some (c_3.1, c_2.2.1, c_2.2.2.1, c_2.2.2.2.1, c_2.2.2.2.2.1, c_2.2.2.2.2.2.1, c_2.2.2.2.2.2.2.1, c_2.2.2.2.2.2.2.2.1, c_2.2.2.2.2.2.2.2.2.1, c_2.1, c_2.2.2.2.2.2.2.2.2.2, c_3.2.1, c_3.2.2.1, c_3.2.2.2)) else (
some ((-2 : Int32), v_this_law_about, v_this_law_gate, v_this_law_height, v_this_law_kin, v_this_law_season, v_this_law_stack, v_this_law_town, v_this_ledger_paid, v_this_nets_balances, v_this_nets_pairs, v_this_nets_sets, v_this_nets_sums, v_this_nets_uneven))

def F_X11_ring (v_this_law_about : Int64) (v_this_law_gate : Int32) (v_this_law_height : Int32) (v_this_law_kin : Int32) (v_this_law_season : Int32) (v_this_law_stack : Nat → Int64) (v_this_law_town : Int32) (v_this_ledger_paid : Nat → Int64) (v_this_nets_balances : Nat → Int64) (v_this_nets_pairs : Nat → Int64) (v_this_nets_ring : Nat → Int32) (v_this_nets_steps : Nat → Int32) (v_this_now_acts_cells : Nat → Int32) (v_this_now_acts_rows : Int32) (v_this_now_debts_cells : Nat → Int32) (v_this_now_debts_rows : Int32) (v_this_now_merchants_cells : Nat → Int32) (v_this_now_merchants_rows : Int32) (v_this_now_payments_cells : Nat → Int32) (v_this_now_payments_rows : Int32) (p0 : Int32) (p1 : Int32) : Option (Int32 × Int64 × Int32 × Int32 × Int32 × Int32 × (Nat → Int64) × Int32 × (Nat → Int64) × (Nat → Int64) × (Nat → Int64) × (Nat → Int32) × (Nat → Int32)) :=
Option.bind (F_X11_isOutOfSeasons p0) fun c_1 =>
if c_1 = 0 then (
if p1 < (-1 : Int32) then (
some ((-2 : Int32), v_this_law_about, v_this_law_gate, v_this_law_height, v_this_law_kin, v_this_law_season, v_this_law_stack, v_this_law_town, v_this_ledger_paid, v_this_nets_balances, v_this_nets_pairs, v_this_nets_ring, v_this_nets_steps)) else (
Option.bind (F_X4_weigh v_this_nets_balances v_this_now_acts_cells v_this_now_acts_rows v_this_now_debts_cells v_this_now_debts_rows v_this_now_merchants_cells v_this_now_merchants_rows v_this_now_payments_cells v_this_now_payments_rows v_this_law_about v_this_law_gate v_this_law_height v_this_law_kin v_this_law_season v_this_law_stack v_this_law_town v_this_ledger_paid v_this_nets_pairs p0) fun c_2 =>
Option.bind (F_X4_layRing v_this_now_merchants_rows c_2.2.2.2.2.2.2.2.2.2 v_this_nets_ring v_this_nets_steps) fun c_3 =>
if p1 = (-1 : Int32) then (
some (c_3.1, c_2.2.1, c_2.2.2.1, c_2.2.2.2.1, c_2.2.2.2.2.1, c_2.2.2.2.2.2.1, c_2.2.2.2.2.2.2.1, c_2.2.2.2.2.2.2.2.1, c_2.2.2.2.2.2.2.2.2.1, c_2.1, c_2.2.2.2.2.2.2.2.2.2, c_3.2.1, c_3.2.2)) else (
Option.bind (if p1 < c_3.1 then (
Option.bind (F_X4_inRing c_3.2.1 p1) fun c_5 =>
some c_5) else (
some (-1 : Int32))) fun j_4 =>
some (j_4, c_2.2.1, c_2.2.2.1, c_2.2.2.2.1, c_2.2.2.2.2.1, c_2.2.2.2.2.2.1, c_2.2.2.2.2.2.2.1, c_2.2.2.2.2.2.2.2.1, c_2.2.2.2.2.2.2.2.2.1, c_2.1, c_2.2.2.2.2.2.2.2.2.2, c_3.2.1, c_3.2.2)))) else (
some ((-2 : Int32), v_this_law_about, v_this_law_gate, v_this_law_height, v_this_law_kin, v_this_law_season, v_this_law_stack, v_this_law_town, v_this_ledger_paid, v_this_nets_balances, v_this_nets_pairs, v_this_nets_ring, v_this_nets_steps))

def F_X11_names (v_this_now_names : Int32) (v_this_now_told_rows : Int32) (p0 : Int32) : Option (Int32 × Int32 × Int32) :=
Option.bind (F_X11_isOut p0 (1 : Int32) (9 : Int32)) fun c_1 =>
if c_1 = 0 then (
Option.bind (F_X8_clear v_this_now_told_rows) fun c_2 =>
some ((1 : Int32), p0, c_2)) else (
some ((-2 : Int32), v_this_now_names, v_this_now_told_rows))

def F_X11_isNoName (v_this_now_names : Int32) (p0 : Int32) : Option (Int32) :=
Option.bind (F_X11_isOut p0 (0 : Int32) (v_this_now_names - (1 : Int32))) fun c_1 =>
Option.bind (bZ c_1) fun t_2 =>
some t_2

def F_X11_ahead (v_this_now_names : Int32) (v_this_now_told_cells : Nat → Int32) (v_this_now_told_rows : Int32) (p0 : Int32) (p1 : Int32) (p2 : Int32) : Option (Int32 × (Nat → Int32) × Int32) :=
Option.bind (F_X11_isNoName v_this_now_names p0) fun c_1 =>
if c_1 = 0 then (
Option.bind (F_X11_isNoName v_this_now_names p1) fun c_2 =>
if c_2 = 0 then (
if p0 = p1 then (
some ((-2 : Int32), v_this_now_told_cells, v_this_now_told_rows)) else (
Option.bind (F_X11_isOut p2 (0 : Int32) (99 : Int32)) fun c_3 =>
if c_3 = 0 then (
Option.bind (F_X8_isFull (40 : Int32) v_this_now_told_rows) fun c_4 =>
if c_4 = 0 then (
Option.bind (F_X8_add 120 v_this_now_told_cells (40 : Int32) v_this_now_told_rows (3 : Int32) p0 p1 p2 (0 : Int32) (0 : Int32)) fun c_5 =>
some (c_5.1 + (1 : Int32), c_5.2.1, c_5.2.2)) else (
some ((-4 : Int32), v_this_now_told_cells, v_this_now_told_rows))) else (
some ((-2 : Int32), v_this_now_told_cells, v_this_now_told_rows)))) else (
some ((-2 : Int32), v_this_now_told_cells, v_this_now_told_rows))) else (
some ((-2 : Int32), v_this_now_told_cells, v_this_now_told_rows))

def F_X11_orders (v_this_now_names : Int32) (v_this_now_told_cells : Nat → Int32) (v_this_now_told_rows : Int32) (v_this_years_ahead : Nat → Int32) (v_this_years_found : Nat → Int32) (p0 : Int32) : Option (Int32 × (Nat → Int32) × (Nat → Int32)) :=
Option.bind (F_X11_isOut p0 (0 : Int32) (99 : Int32)) fun c_1 =>
if c_1 = 0 then (
Option.bind (F_X10_know v_this_years_ahead v_this_now_told_cells v_this_now_told_rows p0) fun c_2 =>
Option.bind (F_X10_countOrders c_2 v_this_years_found v_this_now_names) fun c_3 =>
some (c_3.1, c_2, c_3.2)) else (
some ((-2 : Int32), v_this_years_ahead, v_this_years_found))

def F_X11_place (v_this_now_names : Int32) (v_this_now_told_cells : Nat → Int32) (v_this_now_told_rows : Int32) (v_this_years_ahead : Nat → Int32) (v_this_years_row : Nat → Int32) (p0 : Int32) (p1 : Int32) (p2 : Int32) : Option (Int32 × (Nat → Int32) × (Nat → Int32)) :=
Option.bind (F_X11_isNoName v_this_now_names p0) fun c_1 =>
if c_1 = 0 then (
Option.bind (F_X11_isOut p1 (0 : Int32) (99 : Int32)) fun c_2 =>
if c_2 = 0 then (
Option.bind (F_X11_isOut p2 (0 : Int32) (1 : Int32)) fun c_3 =>
if c_3 = 0 then (
Option.bind (F_X10_know v_this_years_ahead v_this_now_told_cells v_this_now_told_rows p1) fun c_4 =>
Option.bind (F_X10_layFirstOrder c_4 v_this_now_names v_this_years_row) fun c_5 =>
if c_5.1 = 0 then (
some ((-1 : Int32), c_4, c_5.2)) else (
Option.bind (if p2 = 0 then (
Option.bind (F_X10_countAhead c_4 p0) fun c_8 =>
some c_8) else (
Option.bind (F_X10_countBehind c_4 v_this_now_names p0) fun c_7 =>
some ((v_this_now_names - (1 : Int32)) - c_7))) fun j_6 =>
some (j_6, c_4, c_5.2))) else (
some ((-2 : Int32), v_this_years_ahead, v_this_years_row))) else (
some ((-2 : Int32), v_this_years_ahead, v_this_years_row))) else (
some ((-2 : Int32), v_this_years_ahead, v_this_years_row))

def F_X11_order (v_this_now_names : Int32) (v_this_now_told_cells : Nat → Int32) (v_this_now_told_rows : Int32) (v_this_years_ahead : Nat → Int32) (v_this_years_row : Nat → Int32) (p0 : Int32) (p1 : Int32) : Option (Int32 × (Nat → Int32) × (Nat → Int32)) :=
Option.bind (F_X11_isOut p0 (0 : Int32) (99 : Int32)) fun c_1 =>
if c_1 = 0 then (
Option.bind (F_X11_isNoName v_this_now_names p1) fun c_2 =>
if c_2 = 0 then (
Option.bind (F_X10_know v_this_years_ahead v_this_now_told_cells v_this_now_told_rows p0) fun c_3 =>
Option.bind (F_X10_layFirstOrder c_3 v_this_now_names v_this_years_row) fun c_4 =>
Option.bind (if c_4.1 = 0 then (
some (-1 : Int32)) else (
Option.bind (F_X10_nameAt c_4.2 p1) fun c_6 =>
some c_6)) fun j_5 =>
some (j_5, c_3, c_4.2)) else (
some ((-2 : Int32), v_this_years_ahead, v_this_years_row))) else (
some ((-2 : Int32), v_this_years_ahead, v_this_years_row))

def F_X11_letter (v_this_now_letters_cells : Nat → Int32) (v_this_now_letters_rows : Int32) (v_this_now_merchants_rows : Int32) (p0 : Int32) (p1 : Int32) (p2 : Int32) (p3 : Int32) (p4 : Int32) : Option (Int32 × (Nat → Int32) × Int32) :=
Option.bind (F_X11_isNoMerchant v_this_now_merchants_rows p0) fun c_1 =>
if c_1 = 0 then (
Option.bind (F_X11_isNoMerchant v_this_now_merchants_rows p1) fun c_2 =>
if c_2 = 0 then (
if p0 = p1 then (
some ((-2 : Int32), v_this_now_letters_cells, v_this_now_letters_rows)) else (
Option.bind (F_X11_isOut p2 (0 : Int32) (9999 : Int32)) fun c_3 =>
if c_3 = 0 then (
Option.bind (F_X11_isOut p3 p2 (9999 : Int32)) fun c_4 =>
if c_4 = 0 then (
Option.bind (F_X11_isOut p4 (-1 : Int32) (7 : Int32)) fun c_5 =>
if c_5 = 0 then (
Option.bind (F_X8_isFull (30 : Int32) v_this_now_letters_rows) fun c_6 =>
if c_6 = 0 then (
Option.bind (F_X8_add 150 v_this_now_letters_cells (30 : Int32) v_this_now_letters_rows (5 : Int32) p0 p1 p2 p3 p4) fun c_7 =>
some (c_7.1, c_7.2.1, c_7.2.2)) else (
some ((-4 : Int32), v_this_now_letters_cells, v_this_now_letters_rows))) else (
some ((-2 : Int32), v_this_now_letters_cells, v_this_now_letters_rows))) else (
some ((-2 : Int32), v_this_now_letters_cells, v_this_now_letters_rows))) else (
some ((-2 : Int32), v_this_now_letters_cells, v_this_now_letters_rows)))) else (
some ((-2 : Int32), v_this_now_letters_cells, v_this_now_letters_rows))) else (
some ((-2 : Int32), v_this_now_letters_cells, v_this_now_letters_rows))

def F_X11_knows (v_this_now_letters_cells : Nat → Int32) (v_this_now_letters_rows : Int32) (v_this_now_merchants_rows : Int32) (v_this_post_carried : Nat → Int32) (p0 : Int32) (p1 : Int32) (p2 : Int32) : Option (Int32 × (Nat → Int32)) :=
Option.bind (F_X11_isNoMerchant v_this_now_merchants_rows p0) fun c_1 =>
if c_1 = 0 then (
Option.bind (F_X11_isOut p1 (0 : Int32) (7 : Int32)) fun c_2 =>
if c_2 = 0 then (
Option.bind (F_X11_isOut p2 (0 : Int32) (9999 : Int32)) fun c_3 =>
if c_3 = 0 then (
Option.bind (F_X6_fill v_this_post_carried v_this_now_letters_cells v_this_now_letters_rows) fun c_4 =>
Option.bind (F_X6_knownTo c_4 v_this_now_letters_cells v_this_now_letters_rows p0 p2) fun c_5 =>
some ((c_5 >>> (p1 &&& 31)) &&& (1 : Int32), c_4)) else (
some ((-2 : Int32), v_this_post_carried))) else (
some ((-2 : Int32), v_this_post_carried))) else (
some ((-2 : Int32), v_this_post_carried))

def F_X11_carries (v_this_now_letters_cells : Nat → Int32) (v_this_now_letters_rows : Int32) (v_this_post_carried : Nat → Int32) (p0 : Int32) : Option (Int32 × (Nat → Int32)) :=
Option.bind (F_X11_isOut p0 (0 : Int32) (v_this_now_letters_rows - (1 : Int32))) fun c_1 =>
if c_1 = 0 then (
Option.bind (F_X6_fill v_this_post_carried v_this_now_letters_cells v_this_now_letters_rows) fun c_2 =>
Option.bind (F_X6_carriedBy c_2 p0) fun c_3 =>
some (c_3, c_2)) else (
some ((-2 : Int32), v_this_post_carried))

def F_X11_mention (v_this_now_mentions_cells : Nat → Int32) (v_this_now_mentions_rows : Int32) (p0 : Int32) (p1 : Int32) (p2 : Int32) : Option (Int32 × (Nat → Int32) × Int32) :=
Option.bind (F_X11_isOut p0 (-1 : Int32) (4 : Int32)) fun c_1 =>
if c_1 = 0 then (
Option.bind (F_X11_isOut p1 (-1 : Int32) (9 : Int32)) fun c_2 =>
if c_2 = 0 then (
Option.bind (F_X11_isOutOfSeasons p2) fun c_3 =>
if c_3 = 0 then (
Option.bind (F_X8_isFull (10 : Int32) v_this_now_mentions_rows) fun c_4 =>
if c_4 = 0 then (
Option.bind (F_X8_add 30 v_this_now_mentions_cells (10 : Int32) v_this_now_mentions_rows (3 : Int32) p0 p1 p2 (0 : Int32) (0 : Int32)) fun c_5 =>
some (c_5.1, c_5.2.1, c_5.2.2)) else (
some ((-4 : Int32), v_this_now_mentions_cells, v_this_now_mentions_rows))) else (
some ((-2 : Int32), v_this_now_mentions_cells, v_this_now_mentions_rows))) else (
some ((-2 : Int32), v_this_now_mentions_cells, v_this_now_mentions_rows))) else (
some ((-2 : Int32), v_this_now_mentions_cells, v_this_now_mentions_rows))

def F_X11_men (v_this_now_mentions_cells : Nat → Int32) (v_this_now_mentions_rows : Int32) (v_this_persons_alike : Nat → Int32) (v_this_persons_least : Nat → Int32) (v_this_persons_members : Nat → Int32) (p0 : Int32) : Option (Int32 × (Nat → Int32) × (Nat → Int32) × (Nat → Int32)) :=
Option.bind (F_X11_isOut p0 (-1 : Int32) (v_this_now_mentions_rows - (1 : Int32))) fun c_1 =>
if c_1 = 0 then (
Option.bind (F_X3_tellApart v_this_persons_alike v_this_now_mentions_cells v_this_now_mentions_rows v_this_persons_least v_this_persons_members) fun c_2 =>
Option.bind (if p0 = (-1 : Int32) then (
some c_2.1) else (
Option.bind (F_X3_leastOf c_2.2.2.1 p0) fun c_4 =>
some c_4)) fun j_3 =>
some (j_3, c_2.2.1, c_2.2.2.1, c_2.2.2.2)) else (
some ((-10 : Int32), v_this_persons_alike, v_this_persons_least, v_this_persons_members))

def F_X11_load (v_this_now_loads_cells : Nat → Int32) (v_this_now_loads_rows : Int32) (v_this_now_merchants_rows : Int32) (p0 : Int32) (p1 : Int32) (p2 : Int32) : Option (Int32 × (Nat → Int32) × Int32) :=
Option.bind (F_X11_isNoLoad v_this_now_merchants_rows p0 p1) fun c_1 =>
if c_1 = 0 then (
Option.bind (F_X11_isOut p2 (0 : Int32) (1000000 : Int32)) fun c_2 =>
if c_2 = 0 then (
Option.bind (F_X8_isFull (6 : Int32) v_this_now_loads_rows) fun c_3 =>
if c_3 = 0 then (
Option.bind (F_X8_add 18 v_this_now_loads_cells (6 : Int32) v_this_now_loads_rows (3 : Int32) p0 p1 p2 (0 : Int32) (0 : Int32)) fun c_4 =>
some (c_4.1, c_4.2.1, c_4.2.2)) else (
some ((-4 : Int32), v_this_now_loads_cells, v_this_now_loads_rows))) else (
some ((-2 : Int32), v_this_now_loads_cells, v_this_now_loads_rows))) else (
some ((-2 : Int32), v_this_now_loads_cells, v_this_now_loads_rows))

def F_X11_unload (v_this_now_loads_rows : Int32) : Option (Int32 × Int32) :=
Option.bind (F_X8_clear v_this_now_loads_rows) fun c_1 =>
some (v_this_now_loads_rows, c_1)

def F_X11_price (v_this_now_prices_cells : Nat → Int32) (v_this_now_prices_rows : Int32) (p0 : Int32) (p1 : Int32) : Option (Int32 × (Nat → Int32)) :=
Option.bind (F_X11_isOut p0 (0 : Int32) (2 : Int32)) fun c_1 =>
if c_1 = 0 then (
Option.bind (F_X11_isOut p1 (0 : Int32) (1000 : Int32)) fun c_2 =>
if c_2 = 0 then (
Option.bind (F_X8_get 3 v_this_now_prices_cells v_this_now_prices_rows (3 : Int32) (0 : Int32) p0) fun c_3 =>
Option.bind (F_X8_set 3 v_this_now_prices_cells v_this_now_prices_rows (3 : Int32) (0 : Int32) p0 p1) fun c_4 =>
some (c_3, c_4)) else (
some ((-2 : Int32), v_this_now_prices_cells))) else (
some ((-2 : Int32), v_this_now_prices_cells))

def F_X11_plan (v_this_law_about : Int64) (v_this_law_gate : Int32) (v_this_law_height : Int32) (v_this_law_kin : Int32) (v_this_law_season : Int32) (v_this_law_stack : Nat → Int64) (v_this_law_town : Int32) (v_this_now_acts_cells : Nat → Int32) (v_this_now_acts_rows : Int32) (v_this_now_gates_cells : Nat → Int32) (v_this_now_gates_rows : Int32) (v_this_now_loads_cells : Nat → Int32) (v_this_now_loads_rows : Int32) (v_this_now_merchants_cells : Nat → Int32) (v_this_now_merchants_rows : Int32) (v_this_now_narrow : Int32) (v_this_now_prices_cells : Nat → Int32) (v_this_now_prices_rows : Int32) (v_this_planner_best : Int64) (v_this_planner_bestPlan : Int32) (v_this_planner_silver : Nat → Int64) (p0 : Int32) (p1 : Int32) : Option (Int64 × Int64 × Int32 × Int32 × Int32 × Int32 × (Nat → Int64) × Int32 × Int64 × Int32 × (Nat → Int64)) :=
Option.bind (F_X11_isOutOfSeasons p0) fun c_1 =>
if c_1 = 0 then (
Option.bind (F_X11_isOut p1 (-1 : Int32) (v_this_now_loads_rows - (1 : Int32))) fun c_2 =>
if c_2 = 0 then (
Option.bind (F_X5_value v_this_now_acts_cells v_this_now_acts_rows v_this_now_gates_cells v_this_now_gates_rows v_this_now_loads_cells v_this_now_loads_rows v_this_now_merchants_cells v_this_now_merchants_rows v_this_now_narrow v_this_now_prices_cells v_this_now_prices_rows v_this_planner_silver v_this_law_about v_this_law_gate v_this_law_height v_this_law_kin v_this_law_season v_this_law_stack v_this_law_town p0) fun c_3 =>
Option.bind (F_X5_choose v_this_planner_best v_this_planner_bestPlan v_this_now_loads_rows c_3.1) fun c_4 =>
Option.bind (if p1 = (-1 : Int32) then (
some c_4.1) else (
Option.bind (F_X5_wayOf v_this_now_loads_rows c_4.2 p1) fun c_6 =>
some c_6.toInt64)) fun j_5 =>
some (j_5, c_3.2.1, c_3.2.2.1, c_3.2.2.2.1, c_3.2.2.2.2.1, c_3.2.2.2.2.2.1, c_3.2.2.2.2.2.2.1, c_3.2.2.2.2.2.2.2, c_4.1, c_4.2, c_3.1)) else (
some ((-9000000000000000000 : Int64), v_this_law_about, v_this_law_gate, v_this_law_height, v_this_law_kin, v_this_law_season, v_this_law_stack, v_this_law_town, v_this_planner_best, v_this_planner_bestPlan, v_this_planner_silver))) else (
some ((-9000000000000000000 : Int64), v_this_law_about, v_this_law_gate, v_this_law_height, v_this_law_kin, v_this_law_season, v_this_law_stack, v_this_law_town, v_this_planner_best, v_this_planner_bestPlan, v_this_planner_silver))

def F_X11_part (v_this_above : Int64) (v_this_below : Int64) (p0 : Int32) : Option (Int64) :=
Option.bind (F_X11_isOut p0 (0 : Int32) (1 : Int32)) fun c_1 =>
if c_1 = 0 then (
Option.bind (if p0 = 0 then (
some v_this_above) else (
some v_this_below)) fun j_2 =>
some j_2) else (
some (-1 : Int64))

def F_X11_count (v_this_now_acts_rows : Int32) (v_this_now_debts_rows : Int32) (v_this_now_gates_rows : Int32) (v_this_now_letters_rows : Int32) (v_this_now_loads_rows : Int32) (v_this_now_mentions_rows : Int32) (v_this_now_merchants_rows : Int32) (v_this_now_payments_rows : Int32) (v_this_now_purses_rows : Int32) (v_this_now_stones_rows : Int32) (v_this_now_told_rows : Int32) (p0 : Int32) : Option (Int32) :=
Option.bind (F_X11_isOut p0 (0 : Int32) (10 : Int32)) fun c_1 =>
Option.bind (if c_1 = 0 then (
Option.bind (F_X0_howMany v_this_now_acts_rows v_this_now_debts_rows v_this_now_gates_rows v_this_now_letters_rows v_this_now_loads_rows v_this_now_mentions_rows v_this_now_merchants_rows v_this_now_payments_rows v_this_now_purses_rows v_this_now_stones_rows v_this_now_told_rows p0) fun c_3 =>
some c_3) else (
some (-2 : Int32))) fun j_2 =>
some j_2

def B_X11_digest_6 (v_this_now_acts_rows : Int32) (v_this_now_debts_rows : Int32) (v_this_now_gates_rows : Int32) (v_this_now_letters_rows : Int32) (v_this_now_loads_rows : Int32) (v_this_now_mentions_rows : Int32) (v_this_now_merchants_rows : Int32) (v_this_now_payments_rows : Int32) (v_this_now_purses_rows : Int32) (v_this_now_stones_rows : Int32) (v_this_now_told_rows : Int32) (s_1 : Int64 × Int32) : Option ((Int64 × Int32) ⊕ (Int64 × Int32)) :=
if s_1.2 < (11 : Int32) then (
Option.bind (F_X0_howMany v_this_now_acts_rows v_this_now_debts_rows v_this_now_gates_rows v_this_now_letters_rows v_this_now_loads_rows v_this_now_mentions_rows v_this_now_merchants_rows v_this_now_payments_rows v_this_now_purses_rows v_this_now_stones_rows v_this_now_told_rows s_1.2) fun c_3 =>
lt (((31 : Int64) * s_1.1) + c_3.toInt64) fun x_4 =>
lt (s_1.2 + (1 : Int32)) fun x_5 =>
some (Sum.inl (x_4, x_5))) else (
some (Sum.inr (s_1.1, s_1.2)))
def B_X11_digest_63 (v_this_now_merchants_rows : Int32) (c_8 : (Nat → Int64) × Int64 × Int32 × Int32 × Int32 × Int32 × (Nat → Int64) × Int32 × (Nat → Int64) × (Nat → Int64)) (s_9 : Int64 × Int32) : Option ((Int64 × Int32) ⊕ (Int64 × Int32)) :=
if s_9.2 < v_this_now_merchants_rows then (
Option.bind (F_X4_of c_8.1 s_9.2) fun c_11 =>
lt (((31 : Int64) * s_9.1) + c_11) fun x_12 =>
lt (s_9.2 + (1 : Int32)) fun x_13 =>
some (Sum.inl (x_12, x_13))) else (
some (Sum.inr (s_9.1, s_9.2)))
def F_X11_digest (v_this_above : Int64) (v_this_below : Int64) (v_this_law_about : Int64) (v_this_law_gate : Int32) (v_this_law_height : Int32) (v_this_law_kin : Int32) (v_this_law_season : Int32) (v_this_law_stack : Nat → Int64) (v_this_law_town : Int32) (v_this_ledger_paid : Nat → Int64) (v_this_nets_balances : Nat → Int64) (v_this_nets_pairs : Nat → Int64) (v_this_now_acts_cells : Nat → Int32) (v_this_now_acts_rows : Int32) (v_this_now_debts_cells : Nat → Int32) (v_this_now_debts_rows : Int32) (v_this_now_gates_cells : Nat → Int32) (v_this_now_gates_rows : Int32) (v_this_now_letters_cells : Nat → Int32) (v_this_now_letters_rows : Int32) (v_this_now_loads_cells : Nat → Int32) (v_this_now_loads_rows : Int32) (v_this_now_mentions_cells : Nat → Int32) (v_this_now_mentions_rows : Int32) (v_this_now_merchants_cells : Nat → Int32) (v_this_now_merchants_rows : Int32) (v_this_now_names : Int32) (v_this_now_narrow : Int32) (v_this_now_payments_cells : Nat → Int32) (v_this_now_payments_rows : Int32) (v_this_now_prices_cells : Nat → Int32) (v_this_now_prices_rows : Int32) (v_this_now_purses_cells : Nat → Int32) (v_this_now_purses_rows : Int32) (v_this_now_stones_cells : Nat → Int32) (v_this_now_stones_rows : Int32) (v_this_now_texts_cells : Nat → Int32) (v_this_now_texts_rows : Int32) (v_this_now_told_cells : Nat → Int32) (v_this_now_told_rows : Int32) : Option (Int64 × Int64 × Int32 × Int32 × Int32 × Int32 × (Nat → Int64) × Int32 × (Nat → Int64) × (Nat → Int64) × (Nat → Int64)) :=
Option.bind (itr (B_X11_digest_6 v_this_now_acts_rows v_this_now_debts_rows v_this_now_gates_rows v_this_now_letters_rows v_this_now_loads_rows v_this_now_mentions_rows v_this_now_merchants_rows v_this_now_payments_rows v_this_now_purses_rows v_this_now_stones_rows v_this_now_told_rows) FU ((379 : Int64), (0 : Int32))) fun x_2 =>
Option.bind (F_X0_mixPeople v_this_now_acts_cells v_this_now_acts_rows v_this_now_debts_cells v_this_now_debts_rows v_this_now_merchants_cells v_this_now_merchants_rows v_this_now_payments_cells v_this_now_payments_rows v_this_now_purses_cells v_this_now_purses_rows x_2.1) fun c_6 =>
Option.bind (F_X0_mixTrade v_this_now_gates_cells v_this_now_gates_rows v_this_now_letters_cells v_this_now_letters_rows v_this_now_loads_cells v_this_now_loads_rows v_this_now_mentions_cells v_this_now_mentions_rows v_this_now_names v_this_now_narrow v_this_now_prices_cells v_this_now_prices_rows v_this_now_stones_cells v_this_now_stones_rows v_this_now_texts_cells v_this_now_texts_rows v_this_now_told_cells v_this_now_told_rows c_6) fun c_7 =>
Option.bind (F_X4_weigh v_this_nets_balances v_this_now_acts_cells v_this_now_acts_rows v_this_now_debts_cells v_this_now_debts_rows v_this_now_merchants_cells v_this_now_merchants_rows v_this_now_payments_cells v_this_now_payments_rows v_this_law_about v_this_law_gate v_this_law_height v_this_law_kin v_this_law_season v_this_law_stack v_this_law_town v_this_ledger_paid v_this_nets_pairs (99 : Int32)) fun c_8 =>
Option.bind (itr (B_X11_digest_63 v_this_now_merchants_rows c_8) FU (c_7, (0 : Int32))) fun x_10 =>
lt (((31 : Int64) * x_10.1) + v_this_above) fun x_14 =>
some (((31 : Int64) * x_14) + v_this_below, c_8.2.1, c_8.2.2.1, c_8.2.2.2.1, c_8.2.2.2.2.1, c_8.2.2.2.2.2.1, c_8.2.2.2.2.2.2.1, c_8.2.2.2.2.2.2.2.1, c_8.2.2.2.2.2.2.2.2.1, c_8.1, c_8.2.2.2.2.2.2.2.2.2)

def F_X12_in (p0 : Int64) (p1 : Int64) (p2 : Int64) : Option (Int32) :=
Option.bind (if p0 < p1 then (
some (0 : Int32)) else (
if p2 < p0 then (
some (0 : Int32)) else (
some (1 : Int32)))) fun j_1 =>
Option.bind (bZ j_1) fun t_2 =>
some t_2

def F_X12_is (v_this_st : Nat → Int32) (p0 : Int32) (p1 : Int32) : Option (Int32) :=
Option.bind (gI v_this_st 1951 p0) fun t_1 =>
Option.bind (F_X12_in p1.toInt64 (0 : Int64) ((t_1 - (1 : Int32)).toInt64)) fun c_2 =>
Option.bind (bZ c_2) fun t_3 =>
some t_3

def F_X12_one (v_this_st : Nat → Int32) (p0 : Int32) : Option (Int32 × (Nat → Int32)) :=
Option.bind (gI v_this_st 1951 p0) fun t_1 =>
Option.bind (sI v_this_st 1951 p0 (t_1 + (1 : Int32))) fun g_2 =>
Option.bind (gI g_2 1951 p0) fun t_3 =>
some (t_3 - (1 : Int32), g_2)

def F_X12_puts (v_this_st : Nat → Int32) (p0 : Int32) (p1 : Int32) : Option (Int32 × (Nat → Int32)) :=
Option.bind (gI v_this_st 1951 p0) fun t_1 =>
Option.bind (sI v_this_st 1951 p0 p1) fun g_2 =>
some (t_1, g_2)

def F_X12_isSeason (p0 : Int32) : Option (Int32) :=
Option.bind (F_X12_in p0.toInt64 (0 : Int64) (99 : Int64)) fun c_1 =>
Option.bind (bZ c_1) fun t_2 =>
some t_2

def F_X12_house (v_this_st : Nat → Int32) (p0 : Int32) : Option (Int32) :=
Option.bind (gI v_this_st 1951 ((20 : Int32) + ((2 : Int32) * p0))) fun t_1 =>
some t_1

def F_X12_town (v_this_st : Nat → Int32) (p0 : Int32) : Option (Int32) :=
Option.bind (gI v_this_st 1951 (((20 : Int32) + ((2 : Int32) * p0)) + (1 : Int32))) fun t_1 =>
some t_1

def F_X12_kin (v_this_st : Nat → Int32) (p0 : Int32) (p1 : Int32) : Option (Int32) :=
Option.bind (F_X12_house v_this_st p0) fun c_1 =>
Option.bind (F_X12_house v_this_st p1) fun c_2 =>
Option.bind (if c_1 = c_2 then (
some (1 : Int32)) else (
some (0 : Int32))) fun j_3 =>
some j_3

def F_X12_merchant (v_this_st : Nat → Int32) (p0 : Int32) (p1 : Int32) : Option (Int32 × (Nat → Int32)) :=
Option.bind (F_X12_in p0.toInt64 (0 : Int64) (4 : Int64)) fun c_1 =>
if c_1 = 0 then (
some ((-2 : Int32), v_this_st)) else (
Option.bind (F_X12_in p1.toInt64 (0 : Int64) (1 : Int64)) fun c_2 =>
if c_2 = 0 then (
some ((-2 : Int32), v_this_st)) else (
Option.bind (gI v_this_st 1951 (0 : Int32)) fun t_3 =>
if t_3 = (10 : Int32) then (
some ((-4 : Int32), v_this_st)) else (
Option.bind (gI v_this_st 1951 (0 : Int32)) fun t_4 =>
Option.bind (sI v_this_st 1951 ((20 : Int32) + ((2 : Int32) * t_4)) p0) fun g_5 =>
Option.bind (gI g_5 1951 (0 : Int32)) fun t_6 =>
Option.bind (sI g_5 1951 (((20 : Int32) + ((2 : Int32) * t_6)) + (1 : Int32)) p1) fun g_7 =>
Option.bind (F_X12_one g_7 (0 : Int32)) fun c_8 =>
some (c_8.1, c_8.2))))

def F_X12_emits (v_this_step : Nat → Int32) (v_this_steps : Int32) (v_this_with : Nat → Int32) (p0 : Int32) (p1 : Int32) : Option ((Nat → Int32) × Int32 × (Nat → Int32)) :=
Option.bind (sI v_this_step 70 v_this_steps p0) fun g_1 =>
Option.bind (sI v_this_with 70 v_this_steps p1) fun g_2 =>
lt (v_this_steps + (1 : Int32)) fun x_3 =>
some (g_1, x_3, g_2)

def F_X12_holds (p0 : Int32) : Option (Int32) :=
if p0 = (2 : Int32) then (
some (6 : Int32)) else (
if p0 = (3 : Int32) then (
some (6 : Int32)) else (
if p0 = (4 : Int32) then (
some (5 : Int32)) else (
if p0 = (5 : Int32) then (
some (5 : Int32)) else (
if p0 = (6 : Int32) then (
some (4 : Int32)) else (
if p0 = (7 : Int32) then (
some (4 : Int32)) else (
if p0 = (8 : Int32) then (
some (3 : Int32)) else (
if p0 = (9 : Int32) then (
some (3 : Int32)) else (
if p0 = (10 : Int32) then (
some (3 : Int32)) else (
if p0 = (11 : Int32) then (
some (2 : Int32)) else (
if p0 = (12 : Int32) then (
some (1 : Int32)) else (
some (0 : Int32))))))))))))

def B_X12_settles_0 (v_this_waits : Nat → Int32) (p0 : Int32) (s_1 : (Nat → Int32) × Int32 × Int32 × (Nat → Int32)) : Option (((Nat → Int32) × Int32 × Int32 × (Nat → Int32)) ⊕ ((Nat → Int32) × Int32 × Int32 × (Nat → Int32))) :=
if 0 < s_1.2.2.1 then (
Option.bind (gI v_this_waits 70 (s_1.2.2.1 - (1 : Int32))) fun t_3 =>
Option.bind (F_X12_holds t_3) fun c_4 =>
if c_4 < p0 then (
some (Sum.inr (s_1.1, s_1.2.1, s_1.2.2.1, s_1.2.2.2))) else (
lt (s_1.2.2.1 - (1 : Int32)) fun x_5 =>
Option.bind (gI v_this_waits 70 x_5) fun t_6 =>
Option.bind (F_X12_emits s_1.1 s_1.2.1 s_1.2.2.2 t_6 (0 : Int32)) fun c_7 =>
some (Sum.inl (c_7.1, c_7.2.1, x_5, c_7.2.2)))) else (
some (Sum.inr (s_1.1, s_1.2.1, s_1.2.2.1, s_1.2.2.2)))
def F_X12_settles (v_this_step : Nat → Int32) (v_this_steps : Int32) (v_this_waiting : Int32) (v_this_waits : Nat → Int32) (v_this_with : Nat → Int32) (p0 : Int32) : Option ((Nat → Int32) × Int32 × Int32 × (Nat → Int32)) :=
Option.bind (itr (B_X12_settles_0 v_this_waits p0) FU (v_this_step, v_this_steps, v_this_waiting, v_this_with)) fun x_2 =>
some (x_2.1, x_2.2.1, x_2.2.2.1, x_2.2.2.2)

def F_X12_waitsWith (v_this_waiting : Int32) (v_this_waits : Nat → Int32) (p0 : Int32) : Option (Int32 × (Nat → Int32)) :=
Option.bind (sI v_this_waits 70 v_this_waiting p0) fun g_1 =>
lt (v_this_waiting + (1 : Int32)) fun x_2 =>
some (x_2, g_1)

def F_X12_nameOf (p0 : Int32) : Option (Int32) :=
if p0 = (103 : Int32) then (
some (0 : Int32)) else (
if p0 = (107 : Int32) then (
some (1 : Int32)) else (
if p0 = (115 : Int32) then (
some (3 : Int32)) else (
if p0 = (116 : Int32) then (
some (2 : Int32)) else (
if p0 = (119 : Int32) then (
some (4 : Int32)) else (
some (-1 : Int32))))))

def F_X12_signOf (p0 : Int32) : Option (Int32) :=
if p0 = (38 : Int32) then (
some (11 : Int32)) else (
if p0 = (42 : Int32) then (
some (4 : Int32)) else (
if p0 = (43 : Int32) then (
some (6 : Int32)) else (
if p0 = (45 : Int32) then (
some (7 : Int32)) else (
if p0 = (47 : Int32) then (
some (5 : Int32)) else (
if p0 = (60 : Int32) then (
some (8 : Int32)) else (
if p0 = (61 : Int32) then (
some (10 : Int32)) else (
if p0 = (62 : Int32) then (
some (9 : Int32)) else (
if p0 = (124 : Int32) then (
some (12 : Int32)) else (
some (-1 : Int32))))))))))

def B_X12_closes_5 (v_this_waits : Nat → Int32) (s_2 : (Nat → Int32) × Int32 × Int32 × (Nat → Int32)) : Option (((Nat → Int32) × Int32 × Int32 × (Nat → Int32)) ⊕ ((Nat → Int32) × Int32 × Int32 × (Nat → Int32))) :=
if 0 < s_2.2.2.1 then (
Option.bind (gI v_this_waits 70 (s_2.2.2.1 - (1 : Int32))) fun t_4 =>
if t_4 = (15 : Int32) then (
lt (s_2.2.2.1 - (1 : Int32)) fun x_5 =>
Option.bind (F_X12_emits s_2.1 s_2.2.1 s_2.2.2.2 (15 : Int32) (0 : Int32)) fun c_6 =>
some (Sum.inl (c_6.1, c_6.2.1, x_5, c_6.2.2))) else (
some (Sum.inr (s_2.1, s_2.2.1, s_2.2.2.1, s_2.2.2.2)))) else (
some (Sum.inr (s_2.1, s_2.2.1, s_2.2.2.1, s_2.2.2.2)))
def F_X12_closes (v_this_step : Nat → Int32) (v_this_steps : Int32) (v_this_waiting : Int32) (v_this_waits : Nat → Int32) (v_this_with : Nat → Int32) : Option (Int32 × (Nat → Int32) × Int32 × Int32 × (Nat → Int32)) :=
Option.bind (F_X12_settles v_this_step v_this_steps v_this_waiting v_this_waits v_this_with (1 : Int32)) fun c_1 =>
Option.bind (itr (B_X12_closes_5 v_this_waits) FU (c_1.1, c_1.2.1, c_1.2.2.1, c_1.2.2.2)) fun x_3 =>
Option.bind (if x_3.2.2.1 = 0 then (
some (-1 : Int32)) else (
Option.bind (gI v_this_waits 70 (x_3.2.2.1 - (1 : Int32))) fun t_8 =>
some t_8)) fun j_7 =>
some (j_7, x_3.1, x_3.2.1, x_3.2.2.1, x_3.2.2.2)

def J_X12_goesOn_1_42 (v_this_waits : Nat → Int32) (c_1 : Int32) (p0 : Int32) (v_2 : (Nat → Int32) × Int32 × Int32 × (Nat → Int32)) : Option (Int32 × (Nat → Int32) × Int32 × Int32 × (Nat → Int32) × (Nat → Int32)) :=
Option.bind (F_X12_settles v_2.1 v_2.2.1 v_2.2.2.1 v_this_waits v_2.2.2.2 c_1) fun c_3 =>
Option.bind (F_X12_waitsWith c_3.2.2.1 v_this_waits p0) fun c_4 =>
some ((1 : Int32), c_3.1, c_3.2.1, c_4.1, c_4.2, c_3.2.2.2)
def F_X12_goesOn (v_this_step : Nat → Int32) (v_this_steps : Int32) (v_this_waiting : Int32) (v_this_waits : Nat → Int32) (v_this_with : Nat → Int32) (p0 : Int32) : Option (Int32 × (Nat → Int32) × Int32 × Int32 × (Nat → Int32) × (Nat → Int32)) :=
Option.bind (F_X12_holds p0) fun c_1 =>
if c_1 = (3 : Int32) then (
Option.bind (F_X12_settles v_this_step v_this_steps v_this_waiting v_this_waits v_this_with (4 : Int32)) fun c_5 =>
if 0 < c_5.2.2.1 then (
Option.bind (gI v_this_waits 70 (c_5.2.2.1 - (1 : Int32))) fun t_6 =>
Option.bind (F_X12_holds t_6) fun c_7 =>
if c_7 = (3 : Int32) then (
some ((0 : Int32), c_5.1, c_5.2.1, c_5.2.2.1, v_this_waits, c_5.2.2.2)) else (
J_X12_goesOn_1_42 v_this_waits c_1 p0 (c_5.1, c_5.2.1, c_5.2.2.1, c_5.2.2.2))) else (
J_X12_goesOn_1_42 v_this_waits c_1 p0 (c_5.1, c_5.2.1, c_5.2.2.1, c_5.2.2.2))) else (
J_X12_goesOn_1_42 v_this_waits c_1 p0 (v_this_step, v_this_steps, v_this_waiting, v_this_with))

def J_X12_reads_4_405 (t_5 : Int32) (s_2 : Int32 × Int32 × Int32 × (Nat → Int32) × Int32 × Int32 × (Nat → Int32) × (Nat → Int32)) (v_8 : Unit) : Option ((Int32 × Int32 × Int32 × (Nat → Int32) × Int32 × Int32 × (Nat → Int32) × (Nat → Int32)) ⊕ ((Int32 × Int32 × Int32 × (Nat → Int32) × Int32 × Int32 × (Nat → Int32) × (Nat → Int32)) ⊕ (Int32 × (Nat → Int32) × Int32 × Int32 × (Nat → Int32) × (Nat → Int32)))) :=
Option.bind (if t_5 = (45 : Int32) then (
some (3 : Int32)) else (
some (2 : Int32))) fun j_9 =>
Option.bind (F_X12_waitsWith s_2.2.2.2.2.2.1 s_2.2.2.2.2.2.2.1 j_9) fun c_10 =>
lt (s_2.2.2.1 + (1 : Int32)) fun x_11 =>
some (Sum.inl (s_2.1, s_2.2.1, x_11, s_2.2.2.2.1, s_2.2.2.2.2.1, c_10.1, c_10.2, s_2.2.2.2.2.2.2.2))
def B_X12_reads_226 (t_1 : Int32) (v_this_st : Nat → Int32) (p0 : Int32) (s_2 : Int32 × Int32 × Int32 × (Nat → Int32) × Int32 × Int32 × (Nat → Int32) × (Nat → Int32)) (s_19 : Int32 × Int32) : Option ((Int32 × Int32) ⊕ ((Int32 × Int32) ⊕ (Int32 × (Nat → Int32) × Int32 × Int32 × (Nat → Int32) × (Nat → Int32)))) :=
if s_19.1 < t_1 then (
Option.bind (gI v_this_st 1951 ((p0 + (1 : Int32)) + s_19.1)) fun t_22 =>
Option.bind (F_X12_in t_22.toInt64 (48 : Int64) (57 : Int64)) fun c_23 =>
if c_23 = 0 then (
some (Sum.inr (Sum.inl (s_19.1, s_19.2)))) else (
if (s_19.1 - s_2.2.2.1) = (6 : Int32) then (
some (Sum.inr (Sum.inr (((10 : Int32) * s_2.2.2.1) + (2 : Int32), s_2.2.2.2.1, s_2.2.2.2.2.1, s_2.2.2.2.2.2.1, s_2.2.2.2.2.2.2.1, s_2.2.2.2.2.2.2.2)))) else (
Option.bind (gI v_this_st 1951 ((p0 + (1 : Int32)) + s_19.1)) fun t_24 =>
lt ((((10 : Int32) * s_19.2) + t_24) - (48 : Int32)) fun x_25 =>
lt (s_19.1 + (1 : Int32)) fun x_26 =>
some (Sum.inl (x_26, x_25))))) else (
some (Sum.inr (Sum.inl (s_19.1, s_19.2))))
def J_X12_reads_5_163 (t_5 : Int32) (s_2 : Int32 × Int32 × Int32 × (Nat → Int32) × Int32 × Int32 × (Nat → Int32) × (Nat → Int32)) (v_30 : (Nat → Int32) × Int32 × Int32 × (Nat → Int32)) : Option ((Int32 × Int32 × Int32 × (Nat → Int32) × Int32 × Int32 × (Nat → Int32) × (Nat → Int32)) ⊕ ((Int32 × Int32 × Int32 × (Nat → Int32) × Int32 × Int32 × (Nat → Int32) × (Nat → Int32)) ⊕ (Int32 × (Nat → Int32) × Int32 × Int32 × (Nat → Int32) × (Nat → Int32)))) :=
Option.bind (F_X12_signOf t_5) fun c_31 =>
if c_31 = (-1 : Int32) then (
some (Sum.inr (Sum.inr (((10 : Int32) * s_2.2.2.1) + (1 : Int32), v_30.1, v_30.2.1, v_30.2.2.1, s_2.2.2.2.2.2.2.1, v_30.2.2.2)))) else (
Option.bind (F_X12_signOf t_5) fun c_32 =>
Option.bind (F_X12_goesOn v_30.1 v_30.2.1 v_30.2.2.1 s_2.2.2.2.2.2.2.1 v_30.2.2.2 c_32) fun c_33 =>
if c_33.1 = 0 then (
some (Sum.inr (Sum.inr (((10 : Int32) * s_2.2.2.1) + (1 : Int32), c_33.2.1, c_33.2.2.1, c_33.2.2.2.1, c_33.2.2.2.2.1, c_33.2.2.2.2.2)))) else (
lt (s_2.2.2.1 + (1 : Int32)) fun x_34 =>
some (Sum.inl (s_2.1, (0 : Int32), x_34, c_33.2.1, c_33.2.2.1, c_33.2.2.2.1, c_33.2.2.2.2.1, c_33.2.2.2.2.2))))
def J_X12_reads_6_104 (t_5 : Int32) (s_2 : Int32 × Int32 × Int32 × (Nat → Int32) × Int32 × Int32 × (Nat → Int32) × (Nat → Int32)) (v_29 : (Nat → Int32) × Int32 × Int32 × (Nat → Int32)) : Option ((Int32 × Int32 × Int32 × (Nat → Int32) × Int32 × Int32 × (Nat → Int32) × (Nat → Int32)) ⊕ ((Int32 × Int32 × Int32 × (Nat → Int32) × Int32 × Int32 × (Nat → Int32) × (Nat → Int32)) ⊕ (Int32 × (Nat → Int32) × Int32 × Int32 × (Nat → Int32) × (Nat → Int32)))) :=
if t_5 = (63 : Int32) then (
Option.bind (F_X12_settles v_29.1 v_29.2.1 v_29.2.2.1 s_2.2.2.2.2.2.2.1 v_29.2.2.2 (1 : Int32)) fun c_38 =>
Option.bind (F_X12_waitsWith c_38.2.2.1 s_2.2.2.2.2.2.2.1 (14 : Int32)) fun c_39 =>
lt (s_2.2.2.1 + (1 : Int32)) fun x_40 =>
some (Sum.inl (s_2.1, (0 : Int32), x_40, c_38.1, c_38.2.1, c_39.1, c_39.2, c_38.2.2.2))) else (
if t_5 = (58 : Int32) then (
Option.bind (F_X12_closes v_29.1 v_29.2.1 v_29.2.2.1 s_2.2.2.2.2.2.2.1 v_29.2.2.2) fun c_35 =>
if c_35.1 = (14 : Int32) then (
Option.bind (sI s_2.2.2.2.2.2.2.1 70 (c_35.2.2.2.1 - (1 : Int32)) (15 : Int32)) fun g_36 =>
lt (s_2.2.2.1 + (1 : Int32)) fun x_37 =>
some (Sum.inl (s_2.1, (0 : Int32), x_37, c_35.2.1, c_35.2.2.1, c_35.2.2.2.1, g_36, c_35.2.2.2.2))) else (
J_X12_reads_5_163 t_5 s_2 (c_35.2.1, c_35.2.2.1, c_35.2.2.2.1, c_35.2.2.2.2))) else (
J_X12_reads_5_163 t_5 s_2 (v_29.1, v_29.2.1, v_29.2.2.1, v_29.2.2.2)))
def B_X12_reads_25 (t_1 : Int32) (v_this_st : Nat → Int32) (p0 : Int32) (s_2 : Int32 × Int32 × Int32 × (Nat → Int32) × Int32 × Int32 × (Nat → Int32) × (Nat → Int32)) : Option ((Int32 × Int32 × Int32 × (Nat → Int32) × Int32 × Int32 × (Nat → Int32) × (Nat → Int32)) ⊕ ((Int32 × Int32 × Int32 × (Nat → Int32) × Int32 × Int32 × (Nat → Int32) × (Nat → Int32)) ⊕ (Int32 × (Nat → Int32) × Int32 × Int32 × (Nat → Int32) × (Nat → Int32)))) :=
if s_2.2.2.1 < t_1 then (
Option.bind (gI v_this_st 1951 ((p0 + (1 : Int32)) + s_2.2.2.1)) fun t_5 =>
if t_5 = (32 : Int32) then (
lt (s_2.2.2.1 + (1 : Int32)) fun x_46 =>
some (Sum.inl (s_2.1, s_2.2.1, x_46, s_2.2.2.2.1, s_2.2.2.2.2.1, s_2.2.2.2.2.2.1, s_2.2.2.2.2.2.2.1, s_2.2.2.2.2.2.2.2))) else (
if s_2.2.1 = 0 then (
Option.bind (F_X12_in t_5.toInt64 (48 : Int64) (57 : Int64)) fun c_6 =>
if c_6 = 0 then (
Option.bind (F_X12_nameOf t_5) fun c_7 =>
if c_7 = (-1 : Int32) then (
if t_5 = (40 : Int32) then (
if s_2.1 = (8 : Int32) then (
some (Sum.inr (Sum.inr (((10 : Int32) * s_2.2.2.1) + (3 : Int32), s_2.2.2.2.1, s_2.2.2.2.2.1, s_2.2.2.2.2.2.1, s_2.2.2.2.2.2.2.1, s_2.2.2.2.2.2.2.2)))) else (
lt (s_2.1 + (1 : Int32)) fun x_12 =>
Option.bind (F_X12_waitsWith s_2.2.2.2.2.2.1 s_2.2.2.2.2.2.2.1 (13 : Int32)) fun c_13 =>
lt (s_2.2.2.1 + (1 : Int32)) fun x_14 =>
some (Sum.inl (x_12, s_2.2.1, x_14, s_2.2.2.2.1, s_2.2.2.2.2.1, c_13.1, c_13.2, s_2.2.2.2.2.2.2.2)))) else (
if t_5 = (45 : Int32) then (
J_X12_reads_4_405 t_5 s_2 ()) else (
if t_5 = (33 : Int32) then (
J_X12_reads_4_405 t_5 s_2 ()) else (
some (Sum.inr (Sum.inr (((10 : Int32) * s_2.2.2.1) + (1 : Int32), s_2.2.2.2.1, s_2.2.2.2.2.1, s_2.2.2.2.2.2.1, s_2.2.2.2.2.2.2.1, s_2.2.2.2.2.2.2.2))))))) else (
Option.bind (F_X12_nameOf t_5) fun c_15 =>
Option.bind (F_X12_emits s_2.2.2.2.1 s_2.2.2.2.2.1 s_2.2.2.2.2.2.2.2 (1 : Int32) c_15) fun c_16 =>
Option.bind (F_X12_settles c_16.1 c_16.2.1 s_2.2.2.2.2.2.1 s_2.2.2.2.2.2.2.1 c_16.2.2 (6 : Int32)) fun c_17 =>
lt (s_2.2.2.1 + (1 : Int32)) fun x_18 =>
some (Sum.inl (s_2.1, (1 : Int32), x_18, c_17.1, c_17.2.1, c_17.2.2.1, s_2.2.2.2.2.2.2.1, c_17.2.2.2)))) else (
Option.bind (itr (B_X12_reads_226 t_1 v_this_st p0 s_2) FU (s_2.2.2.1, (0 : Int32))) fun x_20 =>
sm x_20 (fun y_21 =>
Option.bind (F_X12_emits s_2.2.2.2.1 s_2.2.2.2.2.1 s_2.2.2.2.2.2.2.2 (0 : Int32) y_21.2) fun c_27 =>
Option.bind (F_X12_settles c_27.1 c_27.2.1 s_2.2.2.2.2.2.1 s_2.2.2.2.2.2.2.1 c_27.2.2 (6 : Int32)) fun c_28 =>
some (Sum.inl (s_2.1, (1 : Int32), y_21.1, c_28.1, c_28.2.1, c_28.2.2.1, s_2.2.2.2.2.2.2.1, c_28.2.2.2))) (fun z => Sum.inr (Sum.inr z)))) else (
if t_5 = (41 : Int32) then (
if 0 < s_2.1 then (
Option.bind (F_X12_closes s_2.2.2.2.1 s_2.2.2.2.2.1 s_2.2.2.2.2.2.1 s_2.2.2.2.2.2.2.1 s_2.2.2.2.2.2.2.2) fun c_41 =>
if c_41.1 = (13 : Int32) then (
lt (c_41.2.2.2.1 - (1 : Int32)) fun x_42 =>
lt (s_2.1 + (-1 : Int32)) fun x_43 =>
Option.bind (F_X12_settles c_41.2.1 c_41.2.2.1 x_42 s_2.2.2.2.2.2.2.1 c_41.2.2.2.2 (6 : Int32)) fun c_44 =>
lt (s_2.2.2.1 + (1 : Int32)) fun x_45 =>
some (Sum.inl (x_43, s_2.2.1, x_45, c_44.1, c_44.2.1, c_44.2.2.1, s_2.2.2.2.2.2.2.1, c_44.2.2.2))) else (
J_X12_reads_6_104 t_5 s_2 (c_41.2.1, c_41.2.2.1, c_41.2.2.2.1, c_41.2.2.2.2))) else (
J_X12_reads_6_104 t_5 s_2 (s_2.2.2.2.1, s_2.2.2.2.2.1, s_2.2.2.2.2.2.1, s_2.2.2.2.2.2.2.2))) else (
J_X12_reads_6_104 t_5 s_2 (s_2.2.2.2.1, s_2.2.2.2.2.1, s_2.2.2.2.2.2.1, s_2.2.2.2.2.2.2.2))))) else (
some (Sum.inr (Sum.inl (s_2.1, s_2.2.1, s_2.2.2.1, s_2.2.2.2.1, s_2.2.2.2.2.1, s_2.2.2.2.2.2.1, s_2.2.2.2.2.2.2.1, s_2.2.2.2.2.2.2.2))))
def F_X12_reads (v_this_st : Nat → Int32) (v_this_step : Nat → Int32) (v_this_steps : Int32) (v_this_waiting : Int32) (v_this_waits : Nat → Int32) (v_this_with : Nat → Int32) (p0 : Int32) : Option (Int32 × (Nat → Int32) × Int32 × Int32 × (Nat → Int32) × (Nat → Int32)) :=
Option.bind (gI v_this_st 1951 p0) fun t_1 =>
Option.bind (itr (B_X12_reads_25 t_1 v_this_st p0) FU ((0 : Int32), (0 : Int32), (0 : Int32), v_this_step, (0 : Int32), (0 : Int32), v_this_waits, v_this_with)) fun x_3 =>
sm x_3 (fun y_4 =>
Option.bind (if y_4.2.1 = 0 then (
some (((10 : Int32) * t_1) + (1 : Int32), y_4.2.2.2.1, y_4.2.2.2.2.1, y_4.2.2.2.2.2.1, y_4.2.2.2.2.2.2.2)) else (
Option.bind (F_X12_closes y_4.2.2.2.1 y_4.2.2.2.2.1 y_4.2.2.2.2.2.1 y_4.2.2.2.2.2.2.1 y_4.2.2.2.2.2.2.2) fun c_48 =>
if c_48.1 = (-1 : Int32) then (
some ((-1 : Int32), c_48.2.1, c_48.2.2.1, c_48.2.2.2.1, c_48.2.2.2.2)) else (
some (((10 : Int32) * t_1) + (1 : Int32), c_48.2.1, c_48.2.2.1, c_48.2.2.2.1, c_48.2.2.2.2)))) fun j_47 =>
some (j_47.1, j_47.2.1, j_47.2.2.1, j_47.2.2.2.1, y_4.2.2.2.2.2.2.1, j_47.2.2.2.2)) (fun z => z)

def F_X12_twoOf (p0 : Int32) (p1 : Int64) (p2 : Int64) : Option (Int64) :=
if p0 = (4 : Int32) then (
some (p1 * p2)) else (
if p0 = (5 : Int32) then (
Option.bind (if p2 = (0 : Int64) then (
some (0 : Int64)) else (
Option.bind (qL p1 p2) fun t_2 =>
some t_2)) fun j_1 =>
some j_1) else (
if p0 = (6 : Int32) then (
some (p1 + p2)) else (
if p0 = (7 : Int32) then (
some (p1 - p2)) else (
if p0 = (8 : Int32) then (
Option.bind (if p1 < p2 then (
some (1 : Int64)) else (
some (0 : Int64))) fun j_3 =>
some j_3) else (
if p0 = (9 : Int32) then (
Option.bind (if p2 < p1 then (
some (1 : Int64)) else (
some (0 : Int64))) fun j_4 =>
some j_4) else (
if p0 = (10 : Int32) then (
Option.bind (if p1 = p2 then (
some (1 : Int64)) else (
some (0 : Int64))) fun j_5 =>
some j_5) else (
if p0 = (11 : Int32) then (
Option.bind (if p1 = (0 : Int64) then (
some (0 : Int64)) else (
if p2 = (0 : Int64) then (
some (0 : Int64)) else (
some (1 : Int64)))) fun j_6 =>
some j_6) else (
Option.bind (if p1 = (0 : Int64) then (
if p2 = (0 : Int64) then (
some (0 : Int64)) else (
some (1 : Int64))) else (
some (1 : Int64))) fun j_7 =>
some j_7))))))))

def J_X12_tellsOf_4_28 (t_3 : Int32) (v_this_with : Nat → Int32) (s_1 : Int32 × Int32 × (Nat → Int64)) (v_this_given : Nat → Int64) (v_5 : Unit) : Option (Int32 × (Nat → Int64)) :=
Option.bind (if t_3 = 0 then (
Option.bind (gI v_this_with 70 s_1.2.1) fun t_9 =>
some t_9.toInt64) else (
Option.bind (gI v_this_with 70 s_1.2.1) fun t_7 =>
Option.bind (gL v_this_given 5 t_7) fun t_8 =>
some t_8)) fun j_6 =>
Option.bind (sL s_1.2.2 70 s_1.1 j_6) fun g_10 =>
lt (s_1.1 + (1 : Int32)) fun x_11 =>
some (x_11, g_10)
def B_X12_tellsOf_4 (v_this_steps : Int32) (v_this_step : Nat → Int32) (v_this_with : Nat → Int32) (v_this_given : Nat → Int64) (s_1 : Int32 × Int32 × (Nat → Int64)) : Option ((Int32 × Int32 × (Nat → Int64)) ⊕ (Int32 × Int32 × (Nat → Int64))) :=
if s_1.2.1 < v_this_steps then (
Option.bind (gI v_this_step 70 s_1.2.1) fun t_3 =>
Option.bind (if t_3 = 0 then (
J_X12_tellsOf_4_28 t_3 v_this_with s_1 v_this_given ()) else (
if t_3 = (1 : Int32) then (
J_X12_tellsOf_4_28 t_3 v_this_with s_1 v_this_given ()) else (
if t_3 = (3 : Int32) then (
Option.bind (gL s_1.2.2 70 (s_1.1 - (1 : Int32))) fun t_26 =>
Option.bind (sL s_1.2.2 70 (s_1.1 - (1 : Int32)) (-t_26)) fun g_27 =>
some (s_1.1, g_27)) else (
if t_3 = (2 : Int32) then (
Option.bind (gL s_1.2.2 70 (s_1.1 - (1 : Int32))) fun t_23 =>
Option.bind (if t_23 = (0 : Int64) then (
some (1 : Int64)) else (
some (0 : Int64))) fun j_24 =>
Option.bind (sL s_1.2.2 70 (s_1.1 - (1 : Int32)) j_24) fun g_25 =>
some (s_1.1, g_25)) else (
if t_3 = (15 : Int32) then (
lt (s_1.1 + (-2 : Int32)) fun x_17 =>
Option.bind (gL s_1.2.2 70 (x_17 - (1 : Int32))) fun t_18 =>
Option.bind (if t_18 = (0 : Int64) then (
Option.bind (gL s_1.2.2 70 (x_17 + (1 : Int32))) fun t_20 =>
some t_20) else (
Option.bind (gL s_1.2.2 70 x_17) fun t_21 =>
some t_21)) fun j_19 =>
Option.bind (sL s_1.2.2 70 (x_17 - (1 : Int32)) j_19) fun g_22 =>
some (x_17, g_22)) else (
lt (s_1.1 + (-1 : Int32)) fun x_12 =>
Option.bind (gL s_1.2.2 70 (x_12 - (1 : Int32))) fun t_13 =>
Option.bind (gL s_1.2.2 70 x_12) fun t_14 =>
Option.bind (F_X12_twoOf t_3 t_13 t_14) fun c_15 =>
Option.bind (sL s_1.2.2 70 (x_12 - (1 : Int32)) c_15) fun g_16 =>
some (x_12, g_16))))))) fun j_4 =>
lt (s_1.2.1 + (1 : Int32)) fun x_28 =>
some (Sum.inl (j_4.1, x_28, j_4.2))) else (
some (Sum.inr (s_1.1, s_1.2.1, s_1.2.2)))
def F_X12_tellsOf (v_this_given : Nat → Int64) (v_this_step : Nat → Int32) (v_this_steps : Int32) (v_this_value : Nat → Int64) (v_this_with : Nat → Int32) : Option (Int64 × (Nat → Int64)) :=
Option.bind (itr (B_X12_tellsOf_4 v_this_steps v_this_step v_this_with v_this_given) FU ((0 : Int32), (0 : Int32), v_this_value)) fun x_2 =>
Option.bind (gL x_2.2.2 70 (0 : Int32)) fun t_29 =>
some (t_29, x_2.2.2)

def F_X12_gives (v_this_given : Nat → Int64) (p0 : Int32) (p1 : Int32) (p2 : Int32) (p3 : Int32) (p4 : Int64) : Option ((Nat → Int64)) :=
Option.bind (sL v_this_given 5 (0 : Int32) p0.toInt64) fun g_1 =>
Option.bind (sL g_1 5 (1 : Int32) p1.toInt64) fun g_2 =>
Option.bind (sL g_2 5 (2 : Int32) p2.toInt64) fun g_3 =>
Option.bind (sL g_3 5 (3 : Int32) p3.toInt64) fun g_4 =>
Option.bind (sL g_4 5 (4 : Int32) p4) fun g_5 =>
some g_5

def F_X12_isText (p0 : Int32) : Option (Int32) :=
Option.bind (F_X12_in p0.toInt64 (0 : Int64) (3 : Int64)) fun c_1 =>
Option.bind (bZ c_1) fun t_2 =>
some t_2

def F_X12_write (v_this_st : Nat → Int32) (p0 : Int32) (p1 : Int32) : Option (Int32 × (Nat → Int32)) :=
Option.bind (F_X12_isText p0) fun c_1 =>
if c_1 = 0 then (
some ((-2 : Int32), v_this_st)) else (
Option.bind (F_X12_in p1.toInt64 (0 : Int64) (127 : Int64)) fun c_2 =>
if c_2 = 0 then (
some ((-2 : Int32), v_this_st)) else (
lt ((40 : Int32) + ((51 : Int32) * p0)) fun x_3 =>
Option.bind (gI v_this_st 1951 x_3) fun t_4 =>
if t_4 = (50 : Int32) then (
some ((-4 : Int32), v_this_st)) else (
Option.bind (gI v_this_st 1951 x_3) fun t_5 =>
Option.bind (sI v_this_st 1951 x_3 (t_5 + (1 : Int32))) fun g_6 =>
Option.bind (gI g_6 1951 x_3) fun t_7 =>
Option.bind (sI g_6 1951 (x_3 + t_7) p1) fun g_8 =>
Option.bind (gI g_8 1951 x_3) fun t_9 =>
some (t_9, g_8))))

def F_X12_erase (v_this_st : Nat → Int32) (p0 : Int32) : Option (Int32 × (Nat → Int32)) :=
Option.bind (F_X12_isText p0) fun c_1 =>
Option.bind (if c_1 = 0 then (
some ((-2 : Int32), v_this_st)) else (
Option.bind (F_X12_puts v_this_st ((40 : Int32) + ((51 : Int32) * p0)) (0 : Int32)) fun c_3 =>
some (c_3.1, c_3.2))) fun j_2 =>
some (j_2.1, j_2.2)

def F_X12_fault (v_this_st : Nat → Int32) (v_this_step : Nat → Int32) (v_this_steps : Int32) (v_this_waiting : Int32) (v_this_waits : Nat → Int32) (v_this_with : Nat → Int32) (p0 : Int32) : Option (Int32 × (Nat → Int32) × Int32 × Int32 × (Nat → Int32) × (Nat → Int32)) :=
Option.bind (F_X12_isText p0) fun c_1 =>
Option.bind (if c_1 = 0 then (
some ((-2 : Int32), v_this_step, v_this_steps, v_this_waiting, v_this_waits, v_this_with)) else (
Option.bind (F_X12_reads v_this_st v_this_step v_this_steps v_this_waiting v_this_waits v_this_with ((40 : Int32) + ((51 : Int32) * p0))) fun c_3 =>
some (c_3.1, c_3.2.1, c_3.2.2.1, c_3.2.2.2.1, c_3.2.2.2.2.1, c_3.2.2.2.2.2))) fun j_2 =>
some (j_2.1, j_2.2.1, j_2.2.2.1, j_2.2.2.2.1, j_2.2.2.2.2.1, j_2.2.2.2.2.2)

def F_X12_tells (v_this_given : Nat → Int64) (v_this_st : Nat → Int32) (v_this_step : Nat → Int32) (v_this_steps : Int32) (v_this_value : Nat → Int64) (v_this_waiting : Int32) (v_this_waits : Nat → Int32) (v_this_with : Nat → Int32) (p0 : Int32) (p1 : Int32) (p2 : Int32) (p3 : Int32) (p4 : Int32) (p5 : Int64) : Option (Int64 × (Nat → Int64) × (Nat → Int32) × Int32 × (Nat → Int64) × Int32 × (Nat → Int32) × (Nat → Int32)) :=
Option.bind (F_X12_isText p0) fun c_1 =>
if c_1 = 0 then (
some ((-2000000000000000000 : Int64), v_this_given, v_this_step, v_this_steps, v_this_value, v_this_waiting, v_this_waits, v_this_with)) else (
Option.bind (F_X12_in p1.toInt64 (0 : Int64) (5 : Int64)) fun c_2 =>
if c_2 = 0 then (
some ((-2000000000000000000 : Int64), v_this_given, v_this_step, v_this_steps, v_this_value, v_this_waiting, v_this_waits, v_this_with)) else (
Option.bind (F_X12_in p2.toInt64 (0 : Int64) (1 : Int64)) fun c_3 =>
if c_3 = 0 then (
some ((-2000000000000000000 : Int64), v_this_given, v_this_step, v_this_steps, v_this_value, v_this_waiting, v_this_waits, v_this_with)) else (
Option.bind (F_X12_in p3.toInt64 (0 : Int64) (1 : Int64)) fun c_4 =>
if c_4 = 0 then (
some ((-2000000000000000000 : Int64), v_this_given, v_this_step, v_this_steps, v_this_value, v_this_waiting, v_this_waits, v_this_with)) else (
Option.bind (F_X12_isSeason p4) fun c_5 =>
if c_5 = 0 then (
some ((-2000000000000000000 : Int64), v_this_given, v_this_step, v_this_steps, v_this_value, v_this_waiting, v_this_waits, v_this_with)) else (
Option.bind (F_X12_reads v_this_st v_this_step v_this_steps v_this_waiting v_this_waits v_this_with ((40 : Int32) + ((51 : Int32) * p0))) fun c_6 =>
if c_6.1 = (-1 : Int32) then (
Option.bind (F_X12_gives v_this_given p1 p2 p3 p4 p5) fun c_7 =>
Option.bind (F_X12_tellsOf c_7 c_6.2.1 c_6.2.2.1 v_this_value c_6.2.2.2.2.2) fun c_8 =>
some (c_8.1, c_7, c_6.2.1, c_6.2.2.1, c_8.2, c_6.2.2.2.1, c_6.2.2.2.2.1, c_6.2.2.2.2.2)) else (
some ((-3000000000000000000 : Int64), v_this_given, c_6.2.1, c_6.2.2.1, v_this_value, c_6.2.2.2.1, c_6.2.2.2.2.1, c_6.2.2.2.2.2)))))))

def B_X12_act_97 (p0 : Int32) (x_7 : Int32) (s_10 : Int32 × (Nat → Int32)) : Option ((Int32 × (Nat → Int32)) ⊕ (Int32 × (Nat → Int32))) :=
if s_10.1 < (51 : Int32) then (
Option.bind (gI s_10.2 1951 (((40 : Int32) + ((51 : Int32) * p0)) + s_10.1)) fun t_12 =>
Option.bind (sI s_10.2 1951 ((x_7 + (2 : Int32)) + s_10.1) t_12) fun g_13 =>
lt (s_10.1 + (1 : Int32)) fun x_14 =>
some (Sum.inl (x_14, g_13))) else (
some (Sum.inr (s_10.1, s_10.2)))
def F_X12_act (v_this_st : Nat → Int32) (v_this_step : Nat → Int32) (v_this_steps : Int32) (v_this_waiting : Int32) (v_this_waits : Nat → Int32) (v_this_with : Nat → Int32) (p0 : Int32) (p1 : Int32) (p2 : Int32) : Option (Int32 × (Nat → Int32) × (Nat → Int32) × Int32 × Int32 × (Nat → Int32) × (Nat → Int32)) :=
Option.bind (F_X12_isText p0) fun c_1 =>
if c_1 = 0 then (
some ((-2 : Int32), v_this_st, v_this_step, v_this_steps, v_this_waiting, v_this_waits, v_this_with)) else (
Option.bind (F_X12_in p1.toInt64 (0 : Int64) (2 : Int64)) fun c_2 =>
if c_2 = 0 then (
some ((-2 : Int32), v_this_st, v_this_step, v_this_steps, v_this_waiting, v_this_waits, v_this_with)) else (
Option.bind (F_X12_isSeason p2) fun c_3 =>
if c_3 = 0 then (
some ((-2 : Int32), v_this_st, v_this_step, v_this_steps, v_this_waiting, v_this_waits, v_this_with)) else (
Option.bind (F_X12_reads v_this_st v_this_step v_this_steps v_this_waiting v_this_waits v_this_with ((40 : Int32) + ((51 : Int32) * p0))) fun c_4 =>
if c_4.1 = (-1 : Int32) then (
Option.bind (gI v_this_st 1951 (1 : Int32)) fun t_5 =>
if t_5 = (16 : Int32) then (
some ((-4 : Int32), v_this_st, c_4.2.1, c_4.2.2.1, c_4.2.2.2.1, c_4.2.2.2.2.1, c_4.2.2.2.2.2)) else (
Option.bind (gI v_this_st 1951 (1 : Int32)) fun t_6 =>
lt ((244 : Int32) + ((53 : Int32) * t_6)) fun x_7 =>
Option.bind (sI v_this_st 1951 x_7 p1) fun g_8 =>
Option.bind (sI g_8 1951 (x_7 + (1 : Int32)) p2) fun g_9 =>
Option.bind (itr (B_X12_act_97 p0 x_7) FU ((0 : Int32), g_9)) fun x_11 =>
Option.bind (F_X12_one x_11.2 (1 : Int32)) fun c_15 =>
some (c_15.1, c_15.2, c_4.2.1, c_4.2.2.1, c_4.2.2.2.1, c_4.2.2.2.2.1, c_4.2.2.2.2.2))) else (
some ((-3 : Int32), v_this_st, c_4.2.1, c_4.2.2.1, c_4.2.2.2.1, c_4.2.2.2.2.1, c_4.2.2.2.2.2)))))

def B_X12_inForce_5 (v_this_st : Nat → Int32) (p0 : Int32) (p1 : Int32) (s_1 : Int32 × Int32) : Option ((Int32 × Int32) ⊕ (Int32 × Int32)) :=
Option.bind (gI v_this_st 1951 (1 : Int32)) fun t_3 =>
if s_1.2 < t_3 then (
lt ((244 : Int32) + ((53 : Int32) * s_1.2)) fun x_4 =>
Option.bind (gI v_this_st 1951 x_4) fun t_5 =>
Option.bind (if t_5 = p0 then (
Option.bind (gI v_this_st 1951 (x_4 + (1 : Int32))) fun t_7 =>
if p1 < t_7 then (
some (0 : Int32)) else (
some (1 : Int32))) else (
some (0 : Int32))) fun j_6 =>
Option.bind (if j_6 = 0 then (
some s_1.1) else (
if s_1.1 = (-1 : Int32) then (
some s_1.2) else (
Option.bind (gI v_this_st 1951 (x_4 + (1 : Int32))) fun t_9 =>
Option.bind (gI v_this_st 1951 (((244 : Int32) + ((53 : Int32) * s_1.1)) + (1 : Int32))) fun t_10 =>
if t_9 < t_10 then (
some s_1.1) else (
some s_1.2)))) fun j_8 =>
lt (s_1.2 + (1 : Int32)) fun x_11 =>
some (Sum.inl (j_8, x_11))) else (
some (Sum.inr (s_1.1, s_1.2)))
def F_X12_inForce (v_this_st : Nat → Int32) (p0 : Int32) (p1 : Int32) : Option (Int32) :=
Option.bind (itr (B_X12_inForce_5 v_this_st p0 p1) FU ((-1 : Int32), (0 : Int32))) fun x_2 =>
some x_2.1

def F_X12_force (v_this_st : Nat → Int32) (p0 : Int32) (p1 : Int32) : Option (Int32) :=
Option.bind (F_X12_in p0.toInt64 (0 : Int64) (2 : Int64)) fun c_1 =>
Option.bind (if c_1 = 0 then (
some (-2 : Int32)) else (
Option.bind (F_X12_isSeason p1) fun c_3 =>
if c_3 = 0 then (
some (-2 : Int32)) else (
Option.bind (F_X12_inForce v_this_st p0 p1) fun c_4 =>
some c_4))) fun j_2 =>
some j_2

def F_X12_told (v_this_given : Nat → Int64) (v_this_st : Nat → Int32) (v_this_step : Nat → Int32) (v_this_steps : Int32) (v_this_value : Nat → Int64) (v_this_waiting : Int32) (v_this_waits : Nat → Int32) (v_this_with : Nat → Int32) (p0 : Int32) (p1 : Int32) (p2 : Int32) (p3 : Int32) (p4 : Int32) (p5 : Int64) (p6 : Int32) : Option (Int32 × (Nat → Int64) × (Nat → Int32) × Int32 × (Nat → Int64) × Int32 × (Nat → Int32) × (Nat → Int32)) :=
Option.bind (F_X12_inForce v_this_st p0 p4) fun c_1 =>
if c_1 = (-1 : Int32) then (
Option.bind (if p0 = 0 then (
some (5 : Int32)) else (
if p0 = (1 : Int32) then (
some (30 : Int32)) else (
some (100 : Int32)))) fun j_6 =>
some (j_6, v_this_given, v_this_step, v_this_steps, v_this_value, v_this_waiting, v_this_waits, v_this_with)) else (
Option.bind (F_X12_reads v_this_st v_this_step v_this_steps v_this_waiting v_this_waits v_this_with (((244 : Int32) + ((53 : Int32) * c_1)) + (2 : Int32))) fun c_2 =>
Option.bind (F_X12_gives v_this_given p1 p2 p3 p4 p5) fun c_3 =>
Option.bind (F_X12_tellsOf c_3 c_2.2.1 c_2.2.2.1 v_this_value c_2.2.2.2.2.2) fun c_4 =>
Option.bind (if c_4.1 < (0 : Int64) then (
some (0 : Int32)) else (
if p6.toInt64 < c_4.1 then (
some p6) else (
some c_4.1.toInt32))) fun j_5 =>
some (j_5, c_3, c_2.2.1, c_2.2.2.1, c_4.2, c_2.2.2.2.1, c_2.2.2.2.2.1, c_2.2.2.2.2.2))

def F_X12_debtOf (v_this_st : Nat → Int32) (p0 : Int32) (p1 : Int32) : Option (Int32) :=
Option.bind (gI v_this_st 1951 (((1092 : Int32) + ((7 : Int32) * p0)) + p1)) fun t_1 =>
some t_1

def F_X12_debt (v_this_st : Nat → Int32) (p0 : Int32) (p1 : Int32) (p2 : Int32) (p3 : Int32) (p4 : Int32) : Option (Int32 × (Nat → Int32)) :=
Option.bind (F_X12_is v_this_st (0 : Int32) p0) fun c_1 =>
if c_1 = 0 then (
some ((-2 : Int32), v_this_st)) else (
Option.bind (F_X12_is v_this_st (0 : Int32) p1) fun c_2 =>
if c_2 = 0 then (
some ((-2 : Int32), v_this_st)) else (
if p0 = p1 then (
some ((-2 : Int32), v_this_st)) else (
Option.bind (F_X12_in p2.toInt64 (1 : Int64) (1000000 : Int64)) fun c_3 =>
if c_3 = 0 then (
some ((-2 : Int32), v_this_st)) else (
Option.bind (F_X12_isSeason p3) fun c_4 =>
if c_4 = 0 then (
some ((-2 : Int32), v_this_st)) else (
Option.bind (F_X12_in p4.toInt64 p3.toInt64 (99 : Int64)) fun c_5 =>
if c_5 = 0 then (
some ((-2 : Int32), v_this_st)) else (
Option.bind (gI v_this_st 1951 (2 : Int32)) fun t_6 =>
if t_6 = (40 : Int32) then (
some ((-4 : Int32), v_this_st)) else (
Option.bind (gI v_this_st 1951 (2 : Int32)) fun t_7 =>
lt ((1092 : Int32) + ((7 : Int32) * t_7)) fun x_8 =>
Option.bind (sI v_this_st 1951 x_8 p0) fun g_9 =>
Option.bind (sI g_9 1951 (x_8 + (1 : Int32)) p1) fun g_10 =>
Option.bind (sI g_10 1951 (x_8 + (2 : Int32)) p2) fun g_11 =>
Option.bind (sI g_11 1951 (x_8 + (3 : Int32)) p3) fun g_12 =>
Option.bind (sI g_12 1951 (x_8 + (4 : Int32)) p4) fun g_13 =>
Option.bind (sI g_13 1951 (x_8 + (5 : Int32)) (-1 : Int32)) fun g_14 =>
Option.bind (sI g_14 1951 (x_8 + (6 : Int32)) (-1 : Int32)) fun g_15 =>
Option.bind (F_X12_one g_15 (2 : Int32)) fun c_16 =>
some (c_16.1, c_16.2))))))))

def F_X12_pay (v_this_st : Nat → Int32) (p0 : Int32) (p1 : Int32) (p2 : Int32) : Option (Int32 × (Nat → Int32)) :=
Option.bind (F_X12_is v_this_st (2 : Int32) p0) fun c_1 =>
if c_1 = 0 then (
some ((-2 : Int32), v_this_st)) else (
Option.bind (F_X12_debtOf v_this_st p0 (3 : Int32)) fun c_2 =>
Option.bind (F_X12_in p1.toInt64 c_2.toInt64 (99 : Int64)) fun c_3 =>
if c_3 = 0 then (
some ((-2 : Int32), v_this_st)) else (
Option.bind (F_X12_in p2.toInt64 (1 : Int64) (1000000 : Int64)) fun c_4 =>
if c_4 = 0 then (
some ((-2 : Int32), v_this_st)) else (
Option.bind (gI v_this_st 1951 (3 : Int32)) fun t_5 =>
if t_5 = (60 : Int32) then (
some ((-4 : Int32), v_this_st)) else (
Option.bind (gI v_this_st 1951 (3 : Int32)) fun t_6 =>
lt ((1372 : Int32) + ((3 : Int32) * t_6)) fun x_7 =>
Option.bind (sI v_this_st 1951 x_7 p0) fun g_8 =>
Option.bind (sI g_8 1951 (x_7 + (1 : Int32)) p1) fun g_9 =>
Option.bind (sI g_9 1951 (x_7 + (2 : Int32)) p2) fun g_10 =>
Option.bind (F_X12_one g_10 (3 : Int32)) fun c_11 =>
some (c_11.1 + (1 : Int32), c_11.2)))))

def F_X12_seal (v_this_st : Nat → Int32) (p0 : Int32) (p1 : Int32) : Option (Int32 × (Nat → Int32)) :=
Option.bind (F_X12_is v_this_st (2 : Int32) p0) fun c_1 =>
if c_1 = 0 then (
some ((-2 : Int32), v_this_st)) else (
Option.bind (F_X12_in p1.toInt64 (1 : Int64) (1000000 : Int64)) fun c_2 =>
if c_2 = 0 then (
some ((-2 : Int32), v_this_st)) else (
Option.bind (F_X12_debtOf v_this_st p0 (5 : Int32)) fun c_3 =>
if c_3 = (-1 : Int32) then (
Option.bind (sI v_this_st 1951 (((1092 : Int32) + ((7 : Int32) * p0)) + (5 : Int32)) p1) fun g_4 =>
some ((1 : Int32), g_4)) else (
some ((-3 : Int32), v_this_st))))

def F_X12_breaks (v_this_st : Nat → Int32) (p0 : Int32) (p1 : Int32) : Option (Int32 × (Nat → Int32)) :=
Option.bind (F_X12_is v_this_st (2 : Int32) p0) fun c_1 =>
if c_1 = 0 then (
some ((-2 : Int32), v_this_st)) else (
Option.bind (F_X12_isSeason p1) fun c_2 =>
if c_2 = 0 then (
some ((-2 : Int32), v_this_st)) else (
Option.bind (F_X12_debtOf v_this_st p0 (5 : Int32)) fun c_3 =>
if c_3 = (-1 : Int32) then (
some ((-3 : Int32), v_this_st)) else (
Option.bind (F_X12_debtOf v_this_st p0 (6 : Int32)) fun c_4 =>
if c_4 = (-1 : Int32) then (
Option.bind (sI v_this_st 1951 (((1092 : Int32) + ((7 : Int32) * p0)) + (6 : Int32)) p1) fun g_5 =>
some ((1 : Int32), g_5)) else (
some ((-3 : Int32), v_this_st)))))

def B_X12_owedOf_86 (v_this_st : Nat → Int32) (p0 : Int32) (s_10 : Int64 × Int32 × (Nat → Int64) × (Nat → Int32) × Int32 × (Nat → Int64) × Int32 × (Nat → Int32) × (Nat → Int32)) (s_12 : Int64 × Int32) : Option ((Int64 × Int32) ⊕ (Int64 × Int32)) :=
Option.bind (gI v_this_st 1951 (3 : Int32)) fun t_14 =>
if s_12.2 < t_14 then (
lt ((1372 : Int32) + ((3 : Int32) * s_12.2)) fun x_15 =>
Option.bind (gI v_this_st 1951 x_15) fun t_16 =>
Option.bind (if t_16 = p0 then (
Option.bind (gI v_this_st 1951 (x_15 + (1 : Int32))) fun t_18 =>
if t_18 = s_10.2.1 then (
Option.bind (gI v_this_st 1951 (x_15 + (2 : Int32))) fun t_19 =>
Option.bind (if s_12.1 < t_19.toInt64 then (
some (0 : Int64)) else (
Option.bind (gI v_this_st 1951 (x_15 + (2 : Int32))) fun t_21 =>
some (s_12.1 - t_21.toInt64))) fun j_20 =>
some j_20) else (
some s_12.1)) else (
some s_12.1)) fun j_17 =>
lt (s_12.2 + (1 : Int32)) fun x_22 =>
some (Sum.inl (j_17, x_22))) else (
some (Sum.inr (s_12.1, s_12.2)))
def B_X12_owedOf_77 (p1 : Int32) (v_this_st : Nat → Int32) (p0 : Int32) (c_8 : Int32) (s_10 : Int64 × Int32 × (Nat → Int64) × (Nat → Int32) × Int32 × (Nat → Int64) × Int32 × (Nat → Int32) × (Nat → Int32)) : Option ((Int64 × Int32 × (Nat → Int64) × (Nat → Int32) × Int32 × (Nat → Int64) × Int32 × (Nat → Int32) × (Nat → Int32)) ⊕ (Int64 × Int32 × (Nat → Int64) × (Nat → Int32) × Int32 × (Nat → Int64) × Int32 × (Nat → Int32) × (Nat → Int32))) :=
if p1 < s_10.2.1 then (
some (Sum.inr (s_10.1, s_10.2.1, s_10.2.2.1, s_10.2.2.2.1, s_10.2.2.2.2.1, s_10.2.2.2.2.2.1, s_10.2.2.2.2.2.2.1, s_10.2.2.2.2.2.2.2.1, s_10.2.2.2.2.2.2.2.2))) else (
Option.bind (itr (B_X12_owedOf_86 v_this_st p0 s_10) FU (s_10.1, (0 : Int32))) fun x_13 =>
Option.bind (F_X12_debtOf v_this_st p0 (4 : Int32)) fun c_23 =>
Option.bind (if c_23 < s_10.2.1 then (
Option.bind (F_X12_debtOf v_this_st p0 (0 : Int32)) fun c_25 =>
Option.bind (F_X12_kin v_this_st c_25 c_8) fun c_26 =>
Option.bind (F_X12_town v_this_st c_8) fun c_27 =>
Option.bind (F_X12_told s_10.2.2.1 v_this_st s_10.2.2.2.1 s_10.2.2.2.2.1 s_10.2.2.2.2.2.1 s_10.2.2.2.2.2.2.1 s_10.2.2.2.2.2.2.2.1 s_10.2.2.2.2.2.2.2.2 (1 : Int32) (0 : Int32) c_26 c_27 s_10.2.1 x_13.1 (1000 : Int32)) fun c_28 =>
Option.bind (qL (x_13.1 * c_28.1.toInt64) (1000 : Int64)) fun t_29 =>
lt (x_13.1 + t_29) fun x_30 =>
Option.bind (if (1000000000000 : Int64) < x_30 then (
some (1000000000000 : Int64)) else (
some x_30)) fun j_31 =>
some (j_31, c_28.2.1, c_28.2.2.1, c_28.2.2.2.1, c_28.2.2.2.2.1, c_28.2.2.2.2.2.1, c_28.2.2.2.2.2.2.1, c_28.2.2.2.2.2.2.2)) else (
some (x_13.1, s_10.2.2.1, s_10.2.2.2.1, s_10.2.2.2.2.1, s_10.2.2.2.2.2.1, s_10.2.2.2.2.2.2.1, s_10.2.2.2.2.2.2.2.1, s_10.2.2.2.2.2.2.2.2))) fun j_24 =>
lt (s_10.2.1 + (1 : Int32)) fun x_32 =>
some (Sum.inl (j_24.1, x_32, j_24.2.1, j_24.2.2.1, j_24.2.2.2.1, j_24.2.2.2.2.1, j_24.2.2.2.2.2.1, j_24.2.2.2.2.2.2.1, j_24.2.2.2.2.2.2.2)))
def F_X12_owedOf (v_this_given : Nat → Int64) (v_this_st : Nat → Int32) (v_this_step : Nat → Int32) (v_this_steps : Int32) (v_this_value : Nat → Int64) (v_this_waiting : Int32) (v_this_waits : Nat → Int32) (v_this_with : Nat → Int32) (p0 : Int32) (p1 : Int32) : Option (Int64 × (Nat → Int64) × (Nat → Int32) × Int32 × (Nat → Int64) × Int32 × (Nat → Int32) × (Nat → Int32)) :=
Option.bind (F_X12_debtOf v_this_st p0 (5 : Int32)) fun c_1 =>
Option.bind (if c_1 = (-1 : Int32) then (
some (0 : Int32)) else (
Option.bind (F_X12_debtOf v_this_st p0 (6 : Int32)) fun c_3 =>
if c_3 = (-1 : Int32) then (
some (1 : Int32)) else (
Option.bind (F_X12_debtOf v_this_st p0 (6 : Int32)) fun c_4 =>
if p1 < c_4 then (
some (1 : Int32)) else (
some (0 : Int32))))) fun j_2 =>
Option.bind (if j_2 = 0 then (
Option.bind (F_X12_debtOf v_this_st p0 (2 : Int32)) fun c_6 =>
some c_6.toInt64) else (
Option.bind (F_X12_debtOf v_this_st p0 (5 : Int32)) fun c_7 =>
some c_7.toInt64)) fun j_5 =>
Option.bind (F_X12_debtOf v_this_st p0 (1 : Int32)) fun c_8 =>
Option.bind (F_X12_debtOf v_this_st p0 (3 : Int32)) fun c_9 =>
Option.bind (itr (B_X12_owedOf_77 p1 v_this_st p0 c_8) FU (j_5, c_9, v_this_given, v_this_step, v_this_steps, v_this_value, v_this_waiting, v_this_waits, v_this_with)) fun x_11 =>
Option.bind (F_X12_debtOf v_this_st p0 (3 : Int32)) fun c_33 =>
Option.bind (if p1 < c_33 then (
some (0 : Int64)) else (
some x_11.1)) fun j_34 =>
some (j_34, x_11.2.2.1, x_11.2.2.2.1, x_11.2.2.2.2.1, x_11.2.2.2.2.2.1, x_11.2.2.2.2.2.2.1, x_11.2.2.2.2.2.2.2.1, x_11.2.2.2.2.2.2.2.2)

def F_X12_owed (v_this_given : Nat → Int64) (v_this_st : Nat → Int32) (v_this_step : Nat → Int32) (v_this_steps : Int32) (v_this_value : Nat → Int64) (v_this_waiting : Int32) (v_this_waits : Nat → Int32) (v_this_with : Nat → Int32) (p0 : Int32) (p1 : Int32) : Option (Int64 × (Nat → Int64) × (Nat → Int32) × Int32 × (Nat → Int64) × Int32 × (Nat → Int32) × (Nat → Int32)) :=
Option.bind (F_X12_is v_this_st (2 : Int32) p0) fun c_1 =>
Option.bind (if c_1 = 0 then (
some ((-2 : Int64), v_this_given, v_this_step, v_this_steps, v_this_value, v_this_waiting, v_this_waits, v_this_with)) else (
Option.bind (F_X12_isSeason p1) fun c_3 =>
if c_3 = 0 then (
some ((-2 : Int64), v_this_given, v_this_step, v_this_steps, v_this_value, v_this_waiting, v_this_waits, v_this_with)) else (
Option.bind (F_X12_owedOf v_this_given v_this_st v_this_step v_this_steps v_this_value v_this_waiting v_this_waits v_this_with p0 p1) fun c_4 =>
some (c_4.1, c_4.2.1, c_4.2.2.1, c_4.2.2.2.1, c_4.2.2.2.2.1, c_4.2.2.2.2.2.1, c_4.2.2.2.2.2.2.1, c_4.2.2.2.2.2.2.2)))) fun j_2 =>
some (j_2.1, j_2.2.1, j_2.2.2.1, j_2.2.2.2.1, j_2.2.2.2.2.1, j_2.2.2.2.2.2.1, j_2.2.2.2.2.2.2.1, j_2.2.2.2.2.2.2.2)

def F_X12_purseOf (v_this_st : Nat → Int32) (p0 : Int32) (p1 : Int32) : Option (Int32) :=
Option.bind (gI v_this_st 1951 (((1552 : Int32) + ((13 : Int32) * p0)) + p1)) fun t_1 =>
some t_1

def B_X12_purse_90 (x_6 : Int32) (s_10 : Int32 × (Nat → Int32)) : Option ((Int32 × (Nat → Int32)) ⊕ (Int32 × (Nat → Int32))) :=
if s_10.1 < (10 : Int32) then (
Option.bind (sI s_10.2 1951 ((x_6 + (3 : Int32)) + s_10.1) (0 : Int32)) fun g_12 =>
lt (s_10.1 + (1 : Int32)) fun x_13 =>
some (Sum.inl (x_13, g_12))) else (
some (Sum.inr (s_10.1, s_10.2)))
def F_X12_purse (v_this_st : Nat → Int32) (p0 : Int32) (p1 : Int32) (p2 : Int32) : Option (Int32 × (Nat → Int32)) :=
Option.bind (F_X12_is v_this_st (0 : Int32) p0) fun c_1 =>
if c_1 = 0 then (
some ((-2 : Int32), v_this_st)) else (
Option.bind (F_X12_isSeason p1) fun c_2 =>
if c_2 = 0 then (
some ((-2 : Int32), v_this_st)) else (
Option.bind (F_X12_in p2.toInt64 (1 : Int64) (10000 : Int64)) fun c_3 =>
if c_3 = 0 then (
some ((-2 : Int32), v_this_st)) else (
Option.bind (gI v_this_st 1951 (4 : Int32)) fun t_4 =>
if t_4 = (3 : Int32) then (
some ((-4 : Int32), v_this_st)) else (
Option.bind (gI v_this_st 1951 (4 : Int32)) fun t_5 =>
lt ((1552 : Int32) + ((13 : Int32) * t_5)) fun x_6 =>
Option.bind (sI v_this_st 1951 x_6 p0) fun g_7 =>
Option.bind (sI g_7 1951 (x_6 + (1 : Int32)) p1) fun g_8 =>
Option.bind (sI g_8 1951 (x_6 + (2 : Int32)) p2) fun g_9 =>
Option.bind (itr (B_X12_purse_90 x_6) FU ((0 : Int32), g_9)) fun x_11 =>
Option.bind (F_X12_one x_11.2 (4 : Int32)) fun c_14 =>
some (c_14.1, c_14.2)))))

def B_X12_shares_4 (v_this_st : Nat → Int32) (p0 : Int32) (s_1 : Int32 × Int32) : Option ((Int32 × Int32) ⊕ (Int32 × Int32)) :=
if s_1.2 < (10 : Int32) then (
Option.bind (F_X12_purseOf v_this_st p0 ((3 : Int32) + s_1.2)) fun c_3 =>
lt (s_1.1 + c_3) fun x_4 =>
lt (s_1.2 + (1 : Int32)) fun x_5 =>
some (Sum.inl (x_4, x_5))) else (
some (Sum.inr (s_1.1, s_1.2)))
def F_X12_shares (v_this_st : Nat → Int32) (p0 : Int32) : Option (Int32) :=
Option.bind (itr (B_X12_shares_4 v_this_st p0) FU ((0 : Int32), (0 : Int32))) fun x_2 =>
some x_2.1

def F_X12_share (v_this_st : Nat → Int32) (p0 : Int32) (p1 : Int32) (p2 : Int32) : Option (Int32 × (Nat → Int32)) :=
Option.bind (F_X12_is v_this_st (4 : Int32) p0) fun c_1 =>
if c_1 = 0 then (
some ((-2 : Int32), v_this_st)) else (
Option.bind (F_X12_is v_this_st (0 : Int32) p1) fun c_2 =>
if c_2 = 0 then (
some ((-2 : Int32), v_this_st)) else (
Option.bind (F_X12_in p2.toInt64 (1 : Int64) (30 : Int64)) fun c_3 =>
if c_3 = 0 then (
some ((-2 : Int32), v_this_st)) else (
Option.bind (F_X12_shares v_this_st p0) fun c_4 =>
if (30 : Int32) < (c_4 + p2) then (
some ((-3 : Int32), v_this_st)) else (
Option.bind (gI v_this_st 1951 ((((1552 : Int32) + ((13 : Int32) * p0)) + (3 : Int32)) + p1)) fun t_5 =>
Option.bind (sI v_this_st 1951 ((((1552 : Int32) + ((13 : Int32) * p0)) + (3 : Int32)) + p1) (t_5 + p2)) fun g_6 =>
Option.bind (F_X12_purseOf g_6 p0 ((3 : Int32) + p1)) fun c_7 =>
some (c_7, g_6)))))

def F_X12_leave (v_this_given : Nat → Int64) (v_this_st : Nat → Int32) (v_this_step : Nat → Int32) (v_this_steps : Int32) (v_this_value : Nat → Int64) (v_this_waiting : Int32) (v_this_waits : Nat → Int32) (v_this_with : Nat → Int32) (p0 : Int32) (p1 : Int32) (p2 : Int32) : Option (Int32 × (Nat → Int64) × (Nat → Int32) × (Nat → Int32) × Int32 × (Nat → Int64) × Int32 × (Nat → Int32) × (Nat → Int32)) :=
Option.bind (F_X12_is v_this_st (4 : Int32) p0) fun c_1 =>
if c_1 = 0 then (
some ((-2 : Int32), v_this_given, v_this_st, v_this_step, v_this_steps, v_this_value, v_this_waiting, v_this_waits, v_this_with)) else (
Option.bind (F_X12_is v_this_st (0 : Int32) p1) fun c_2 =>
if c_2 = 0 then (
some ((-2 : Int32), v_this_given, v_this_st, v_this_step, v_this_steps, v_this_value, v_this_waiting, v_this_waits, v_this_with)) else (
Option.bind (F_X12_purseOf v_this_st p0 (1 : Int32)) fun c_3 =>
Option.bind (F_X12_in p2.toInt64 (0 : Int64) ((c_3 - (1 : Int32)).toInt64)) fun c_4 =>
if c_4 = 0 then (
some ((-2 : Int32), v_this_given, v_this_st, v_this_step, v_this_steps, v_this_value, v_this_waiting, v_this_waits, v_this_with)) else (
Option.bind (F_X12_purseOf v_this_st p0 ((3 : Int32) + p1)) fun c_5 =>
if c_5 = 0 then (
some ((-3 : Int32), v_this_given, v_this_st, v_this_step, v_this_steps, v_this_value, v_this_waiting, v_this_waits, v_this_with)) else (
Option.bind (F_X12_purseOf v_this_st p0 (2 : Int32)) fun c_6 =>
lt (c_6 * c_5) fun x_7 =>
Option.bind (F_X12_purseOf v_this_st p0 (0 : Int32)) fun c_8 =>
Option.bind (F_X12_kin v_this_st p1 c_8) fun c_9 =>
Option.bind (F_X12_town v_this_st p1) fun c_10 =>
Option.bind (F_X12_told v_this_given v_this_st v_this_step v_this_steps v_this_value v_this_waiting v_this_waits v_this_with (2 : Int32) (0 : Int32) c_9 c_10 p2 x_7.toInt64 (200 : Int32)) fun c_11 =>
Option.bind (sI v_this_st 1951 ((((1552 : Int32) + ((13 : Int32) * p0)) + (3 : Int32)) + p1) (0 : Int32)) fun g_12 =>
Option.bind (qI (x_7 * c_11.1) (100 : Int32)) fun t_13 =>
some (t_13, c_11.2.1, g_12, c_11.2.2.1, c_11.2.2.2.1, c_11.2.2.2.2.1, c_11.2.2.2.2.2.1, c_11.2.2.2.2.2.2.1, c_11.2.2.2.2.2.2.2)))))

def B_X12_parted_60 (c_5 : Int32) (v_this_st : Nat → Int32) (p0 : Int32) (p1 : Int32) (t_4 : Int32) (p2 : Int32) (s_7 : Int32 × Int32 × Int32) : Option ((Int32 × Int32 × Int32) ⊕ (Int32 × Int32 × Int32)) :=
if s_7.2.2 < (10 : Int32) then (
if 0 < c_5 then (
Option.bind (F_X12_purseOf v_this_st p0 ((3 : Int32) + s_7.2.2)) fun c_9 =>
Option.bind (qL (((p1 - t_4).toInt64) * c_9.toInt64) c_5.toInt64) fun t_10 =>
lt (s_7.2.1 + t_10.toInt32) fun x_11 =>
Option.bind (if s_7.2.2 = p2 then (
some t_10.toInt32) else (
some s_7.1)) fun j_12 =>
lt (s_7.2.2 + (1 : Int32)) fun x_13 =>
some (Sum.inl (j_12, x_11, x_13))) else (
some (Sum.inr (s_7.1, s_7.2.1, s_7.2.2)))) else (
some (Sum.inr (s_7.1, s_7.2.1, s_7.2.2)))
def F_X12_parted (v_this_st : Nat → Int32) (p0 : Int32) (p1 : Int32) (p2 : Int32) : Option (Int32) :=
Option.bind (F_X12_is v_this_st (4 : Int32) p0) fun c_1 =>
if c_1 = 0 then (
some (-2 : Int32)) else (
Option.bind (F_X12_in p1.toInt64 (0 : Int64) (100000000 : Int64)) fun c_2 =>
if c_2 = 0 then (
some (-2 : Int32)) else (
Option.bind (F_X12_is v_this_st (0 : Int32) p2) fun c_3 =>
if c_3 = 0 then (
some (-2 : Int32)) else (
Option.bind (qI p1 (3 : Int32)) fun t_4 =>
Option.bind (F_X12_shares v_this_st p0) fun c_5 =>
lt (p1 - t_4) fun x_6 =>
Option.bind (itr (B_X12_parted_60 c_5 v_this_st p0 p1 t_4 p2) FU ((0 : Int32), (0 : Int32), (0 : Int32))) fun x_8 =>
lt (x_6 - x_8.2.1) fun x_14 =>
Option.bind (F_X12_purseOf v_this_st p0 (0 : Int32)) fun c_15 =>
Option.bind (if p2 = c_15 then (
some ((x_8.1 + t_4) + x_14)) else (
some x_8.1)) fun j_16 =>
some j_16)))

def F_X12_gate (v_this_st : Nat → Int32) (p0 : Int32) : Option (Int32 × (Nat → Int32)) :=
Option.bind (F_X12_in p0.toInt64 (0 : Int64) (1 : Int64)) fun c_1 =>
if c_1 = 0 then (
some ((-2 : Int32), v_this_st)) else (
Option.bind (gI v_this_st 1951 (5 : Int32)) fun t_2 =>
if t_2 = (6 : Int32) then (
some ((-4 : Int32), v_this_st)) else (
Option.bind (gI v_this_st 1951 (5 : Int32)) fun t_3 =>
Option.bind (sI v_this_st 1951 ((1591 : Int32) + t_3) p0) fun g_4 =>
Option.bind (F_X12_one g_4 (5 : Int32)) fun c_5 =>
some (c_5.1 + (1 : Int32), c_5.2)))

def F_X12_isWeight (p0 : Int32) : Option (Int32) :=
Option.bind (F_X12_in p0.toInt64 (1 : Int64) (1000000 : Int64)) fun c_1 =>
Option.bind (bZ c_1) fun t_2 =>
some t_2

def B_X12_wideOf_6 (v_this_st : Nat → Int32) (p0 : Int32) (p2 : Int32) (s_1 : Int32 × Int32 × (Nat → Int64) × (Nat → Int32) × Int32 × (Nat → Int64) × Int32 × (Nat → Int32) × (Nat → Int32)) : Option ((Int32 × Int32 × (Nat → Int64) × (Nat → Int32) × Int32 × (Nat → Int64) × Int32 × (Nat → Int32) × (Nat → Int32)) ⊕ (Int32 × Int32 × (Nat → Int64) × (Nat → Int32) × Int32 × (Nat → Int64) × Int32 × (Nat → Int32) × (Nat → Int32))) :=
Option.bind (gI v_this_st 1951 (5 : Int32)) fun t_3 =>
if s_1.2.1 < t_3 then (
Option.bind (gI v_this_st 1951 ((1591 : Int32) + s_1.2.1)) fun t_4 =>
Option.bind (F_X12_town v_this_st p0) fun c_5 =>
Option.bind (if c_5 = t_4 then (
some (1 : Int32)) else (
some (0 : Int32))) fun j_6 =>
Option.bind (F_X12_told s_1.2.2.1 v_this_st s_1.2.2.2.1 s_1.2.2.2.2.1 s_1.2.2.2.2.2.1 s_1.2.2.2.2.2.2.1 s_1.2.2.2.2.2.2.2.1 s_1.2.2.2.2.2.2.2.2 (0 : Int32) s_1.2.1 j_6 t_4 p2 s_1.1.toInt64 (100 : Int32)) fun c_7 =>
Option.bind (qL (s_1.1.toInt64 * c_7.1.toInt64) (100 : Int64)) fun t_8 =>
lt (s_1.1 - t_8.toInt32) fun x_9 =>
lt (s_1.2.1 + (1 : Int32)) fun x_10 =>
some (Sum.inl (x_9, x_10, c_7.2.1, c_7.2.2.1, c_7.2.2.2.1, c_7.2.2.2.2.1, c_7.2.2.2.2.2.1, c_7.2.2.2.2.2.2.1, c_7.2.2.2.2.2.2.2))) else (
some (Sum.inr (s_1.1, s_1.2.1, s_1.2.2.1, s_1.2.2.2.1, s_1.2.2.2.2.1, s_1.2.2.2.2.2.1, s_1.2.2.2.2.2.2.1, s_1.2.2.2.2.2.2.2.1, s_1.2.2.2.2.2.2.2.2)))
def F_X12_wideOf (v_this_given : Nat → Int64) (v_this_st : Nat → Int32) (v_this_step : Nat → Int32) (v_this_steps : Int32) (v_this_value : Nat → Int64) (v_this_waiting : Int32) (v_this_waits : Nat → Int32) (v_this_with : Nat → Int32) (p0 : Int32) (p1 : Int32) (p2 : Int32) : Option (Int32 × (Nat → Int64) × (Nat → Int32) × Int32 × (Nat → Int64) × Int32 × (Nat → Int32) × (Nat → Int32)) :=
Option.bind (itr (B_X12_wideOf_6 v_this_st p0 p2) FU (p1, (0 : Int32), v_this_given, v_this_step, v_this_steps, v_this_value, v_this_waiting, v_this_waits, v_this_with)) fun x_2 =>
some (x_2.1, x_2.2.2.1, x_2.2.2.2.1, x_2.2.2.2.2.1, x_2.2.2.2.2.2.1, x_2.2.2.2.2.2.2.1, x_2.2.2.2.2.2.2.2.1, x_2.2.2.2.2.2.2.2.2)

def F_X12_wide (v_this_given : Nat → Int64) (v_this_st : Nat → Int32) (v_this_step : Nat → Int32) (v_this_steps : Int32) (v_this_value : Nat → Int64) (v_this_waiting : Int32) (v_this_waits : Nat → Int32) (v_this_with : Nat → Int32) (p0 : Int32) (p1 : Int32) (p2 : Int32) : Option (Int32 × (Nat → Int64) × (Nat → Int32) × Int32 × (Nat → Int64) × Int32 × (Nat → Int32) × (Nat → Int32)) :=
Option.bind (F_X12_is v_this_st (0 : Int32) p0) fun c_1 =>
Option.bind (if c_1 = 0 then (
some ((-2 : Int32), v_this_given, v_this_step, v_this_steps, v_this_value, v_this_waiting, v_this_waits, v_this_with)) else (
Option.bind (F_X12_isWeight p1) fun c_3 =>
if c_3 = 0 then (
some ((-2 : Int32), v_this_given, v_this_step, v_this_steps, v_this_value, v_this_waiting, v_this_waits, v_this_with)) else (
Option.bind (F_X12_isSeason p2) fun c_4 =>
if c_4 = 0 then (
some ((-2 : Int32), v_this_given, v_this_step, v_this_steps, v_this_value, v_this_waiting, v_this_waits, v_this_with)) else (
Option.bind (F_X12_wideOf v_this_given v_this_st v_this_step v_this_steps v_this_value v_this_waiting v_this_waits v_this_with p0 p1 p2) fun c_5 =>
some (c_5.1, c_5.2.1, c_5.2.2.1, c_5.2.2.2.1, c_5.2.2.2.2.1, c_5.2.2.2.2.2.1, c_5.2.2.2.2.2.2.1, c_5.2.2.2.2.2.2.2))))) fun j_2 =>
some (j_2.1, j_2.2.1, j_2.2.2.1, j_2.2.2.2.1, j_2.2.2.2.2.1, j_2.2.2.2.2.2.1, j_2.2.2.2.2.2.2.1, j_2.2.2.2.2.2.2.2)

def F_X12_narrow (v_this_st : Nat → Int32) (p0 : Int32) : Option (Int32 × (Nat → Int32)) :=
Option.bind (F_X12_in p0.toInt64 (2 : Int64) (100 : Int64)) fun c_1 =>
Option.bind (if c_1 = 0 then (
some ((-2 : Int32), v_this_st)) else (
Option.bind (F_X12_puts v_this_st (11 : Int32) p0) fun c_3 =>
some (c_3.1, c_3.2))) fun j_2 =>
some (j_2.1, j_2.2)

def B_X12_divisor_6  (s_1 : Int64 × Int64) : Option ((Int64 × Int64) ⊕ (Int64 × Int64)) :=
if s_1.2 = (0 : Int64) then (
some (Sum.inr (s_1.1, s_1.2))) else (
Option.bind (mL s_1.1 s_1.2) fun t_3 =>
some (Sum.inl (s_1.2, t_3)))
def F_X12_divisor (p0 : Int64) (p1 : Int64) : Option (Int64) :=
Option.bind (itr (B_X12_divisor_6) FU (p0, p1)) fun x_2 =>
some x_2.1

def F_X12_tellsFraction (v_this_above : Int64) (v_this_below : Int64) (p0 : Int64) (p1 : Int64) : Option (Int32 × Int64 × Int64) :=
Option.bind (F_X12_divisor p0 p1) fun c_1 =>
Option.bind (qL p0 c_1) fun t_2 =>
Option.bind (qL p1 c_1) fun t_3 =>
some ((1 : Int32), t_2, t_3)

def F_X12_mean (v_this_above : Int64) (v_this_below : Int64) (v_this_st : Nat → Int32) (p0 : Int32) : Option (Int32 × Int64 × Int64) :=
Option.bind (F_X12_isWeight p0) fun c_1 =>
Option.bind (if c_1 = 0 then (
some ((-2 : Int32), v_this_above, v_this_below)) else (
Option.bind (gI v_this_st 1951 (11 : Int32)) fun t_3 =>
Option.bind (gI v_this_st 1951 (11 : Int32)) fun t_4 =>
Option.bind (F_X12_tellsFraction v_this_above v_this_below (p0.toInt64 * ((t_3 - (1 : Int32)).toInt64)) t_4.toInt64) fun c_5 =>
some (c_5.1, c_5.2.1, c_5.2.2))) fun j_2 =>
some (j_2.1, j_2.2.1, j_2.2.2)

def F_X12_better (v_this_given : Nat → Int64) (v_this_st : Nat → Int32) (v_this_step : Nat → Int32) (v_this_steps : Int32) (v_this_value : Nat → Int64) (v_this_waiting : Int32) (v_this_waits : Nat → Int32) (v_this_with : Nat → Int32) (p0 : Int32) (p1 : Int32) (p2 : Int32) : Option (Int32 × (Nat → Int64) × (Nat → Int32) × Int32 × (Nat → Int64) × Int32 × (Nat → Int32) × (Nat → Int32)) :=
Option.bind (F_X12_is v_this_st (0 : Int32) p0) fun c_1 =>
if c_1 = 0 then (
some ((-2 : Int32), v_this_given, v_this_step, v_this_steps, v_this_value, v_this_waiting, v_this_waits, v_this_with)) else (
Option.bind (F_X12_isWeight p1) fun c_2 =>
if c_2 = 0 then (
some ((-2 : Int32), v_this_given, v_this_step, v_this_steps, v_this_value, v_this_waiting, v_this_waits, v_this_with)) else (
Option.bind (F_X12_isSeason p2) fun c_3 =>
if c_3 = 0 then (
some ((-2 : Int32), v_this_given, v_this_step, v_this_steps, v_this_value, v_this_waiting, v_this_waits, v_this_with)) else (
Option.bind (gI v_this_st 1951 (11 : Int32)) fun t_4 =>
Option.bind (F_X12_wideOf v_this_given v_this_st v_this_step v_this_steps v_this_value v_this_waiting v_this_waits v_this_with p0 p1 p2) fun c_5 =>
Option.bind (gI v_this_st 1951 (11 : Int32)) fun t_6 =>
Option.bind (if (c_5.1.toInt64 * t_6.toInt64) < (p1.toInt64 * ((t_4 - (1 : Int32)).toInt64)) then (
some (1 : Int32)) else (
some (0 : Int32))) fun j_7 =>
some (j_7, c_5.2.1, c_5.2.2.1, c_5.2.2.2.1, c_5.2.2.2.2.1, c_5.2.2.2.2.2.1, c_5.2.2.2.2.2.2.1, c_5.2.2.2.2.2.2.2))))

def F_X12_stone (v_this_st : Nat → Int32) (p0 : Int32) (p1 : Int32) (p2 : Int32) : Option (Int32 × (Nat → Int32)) :=
Option.bind (F_X12_in p0.toInt64 (1 : Int64) (10000 : Int64)) fun c_1 =>
if c_1 = 0 then (
some ((-2 : Int32), v_this_st)) else (
Option.bind (F_X12_in p1.toInt64 (1 : Int64) (10000 : Int64)) fun c_2 =>
if c_2 = 0 then (
some ((-2 : Int32), v_this_st)) else (
Option.bind (F_X12_in p2.toInt64 (0 : Int64) ((p1 - (1 : Int32)).toInt64)) fun c_3 =>
if c_3 = 0 then (
some ((-2 : Int32), v_this_st)) else (
Option.bind (gI v_this_st 1951 (6 : Int32)) fun t_4 =>
if t_4 = (12 : Int32) then (
some ((-4 : Int32), v_this_st)) else (
Option.bind (gI v_this_st 1951 (6 : Int32)) fun t_5 =>
lt ((1597 : Int32) + ((3 : Int32) * t_5)) fun x_6 =>
Option.bind (sI v_this_st 1951 x_6 p0) fun g_7 =>
Option.bind (sI g_7 1951 (x_6 + (1 : Int32)) p1) fun g_8 =>
Option.bind (sI g_8 1951 (x_6 + (2 : Int32)) p2) fun g_9 =>
Option.bind (F_X12_one g_9 (6 : Int32)) fun c_10 =>
some (c_10.1 + (1 : Int32), c_10.2)))))

def B_X12_span_34 (v_this_st : Nat → Int32) (p0 : Int32) (s_3 : Int64 × Int64 × Int64 × Int64 × Int32) : Option ((Int64 × Int64 × Int64 × Int64 × Int32) ⊕ (Int64 × Int64 × Int64 × Int64 × Int32)) :=
Option.bind (gI v_this_st 1951 (6 : Int32)) fun t_5 =>
if s_3.2.2.2.2 < t_5 then (
lt ((1597 : Int32) + ((3 : Int32) * s_3.2.2.2.2)) fun x_6 =>
Option.bind (gI v_this_st 1951 x_6) fun t_7 =>
Option.bind (gI v_this_st 1951 (x_6 + (1 : Int32))) fun t_8 =>
Option.bind (gI v_this_st 1951 (x_6 + (2 : Int32))) fun t_9 =>
lt (p0.toInt64 * ((t_8 - t_9).toInt64)) fun x_10 =>
Option.bind (gI v_this_st 1951 (x_6 + (1 : Int32))) fun t_11 =>
Option.bind (gI v_this_st 1951 (x_6 + (2 : Int32))) fun t_12 =>
lt (p0.toInt64 * ((t_11 + t_12).toInt64)) fun x_13 =>
Option.bind (if (s_3.1 * t_7.toInt64) < (x_10 * s_3.2.1) then (
some (x_10, t_7.toInt64)) else (
some (s_3.1, s_3.2.1))) fun j_14 =>
Option.bind (if (x_13 * s_3.2.2.2.1) < (s_3.2.2.1 * t_7.toInt64) then (
some (x_13, t_7.toInt64)) else (
some (s_3.2.2.1, s_3.2.2.2.1))) fun j_15 =>
lt (s_3.2.2.2.2 + (1 : Int32)) fun x_16 =>
some (Sum.inl (j_14.1, j_14.2, j_15.1, j_15.2, x_16))) else (
some (Sum.inr (s_3.1, s_3.2.1, s_3.2.2.1, s_3.2.2.2.1, s_3.2.2.2.2)))
def F_X12_span (v_this_above : Int64) (v_this_below : Int64) (v_this_st : Nat → Int32) (p0 : Int32) (p1 : Int32) : Option (Int32 × Int64 × Int64) :=
Option.bind (F_X12_isWeight p0) fun c_1 =>
if c_1 = 0 then (
some ((-2 : Int32), v_this_above, v_this_below)) else (
Option.bind (F_X12_in p1.toInt64 (0 : Int64) (1 : Int64)) fun c_2 =>
if c_2 = 0 then (
some ((-2 : Int32), v_this_above, v_this_below)) else (
Option.bind (itr (B_X12_span_34 v_this_st p0) FU ((0 : Int64), (1 : Int64), (1 : Int64), (0 : Int64), (0 : Int32))) fun x_4 =>
Option.bind (gI v_this_st 1951 (6 : Int32)) fun t_17 =>
if t_17 = 0 then (
some ((0 : Int32), v_this_above, v_this_below)) else (
if (x_4.2.2.1 * x_4.2.1) < (x_4.1 * x_4.2.2.2.1) then (
some ((0 : Int32), v_this_above, v_this_below)) else (
Option.bind (if p1 = 0 then (
Option.bind (F_X12_tellsFraction v_this_above v_this_below x_4.1 x_4.2.1) fun c_20 =>
some (c_20.1, c_20.2.1, c_20.2.2)) else (
Option.bind (F_X12_tellsFraction v_this_above v_this_below x_4.2.2.1 x_4.2.2.2.1) fun c_19 =>
some (c_19.1, c_19.2.1, c_19.2.2))) fun j_18 =>
some (j_18.1, j_18.2.1, j_18.2.2)))))

def B_X12_balanceOf_5 (v_this_st : Nat → Int32) (p0 : Int32) (p1 : Int32) (s_1 : Int64 × Int32 × (Nat → Int64) × (Nat → Int32) × Int32 × (Nat → Int64) × Int32 × (Nat → Int32) × (Nat → Int32)) : Option ((Int64 × Int32 × (Nat → Int64) × (Nat → Int32) × Int32 × (Nat → Int64) × Int32 × (Nat → Int32) × (Nat → Int32)) ⊕ (Int64 × Int32 × (Nat → Int64) × (Nat → Int32) × Int32 × (Nat → Int64) × Int32 × (Nat → Int32) × (Nat → Int32))) :=
Option.bind (gI v_this_st 1951 (2 : Int32)) fun t_3 =>
if s_1.2.1 < t_3 then (
Option.bind (F_X12_debtOf v_this_st s_1.2.1 (0 : Int32)) fun c_4 =>
Option.bind (if c_4 = p0 then (
Option.bind (F_X12_owedOf s_1.2.2.1 v_this_st s_1.2.2.2.1 s_1.2.2.2.2.1 s_1.2.2.2.2.2.1 s_1.2.2.2.2.2.2.1 s_1.2.2.2.2.2.2.2.1 s_1.2.2.2.2.2.2.2.2 s_1.2.1 p1) fun c_8 =>
some (c_8.1, c_8.2.1, c_8.2.2.1, c_8.2.2.2.1, c_8.2.2.2.2.1, c_8.2.2.2.2.2.1, c_8.2.2.2.2.2.2.1, c_8.2.2.2.2.2.2.2)) else (
Option.bind (F_X12_debtOf v_this_st s_1.2.1 (1 : Int32)) fun c_6 =>
if c_6 = p0 then (
Option.bind (F_X12_owedOf s_1.2.2.1 v_this_st s_1.2.2.2.1 s_1.2.2.2.2.1 s_1.2.2.2.2.2.1 s_1.2.2.2.2.2.2.1 s_1.2.2.2.2.2.2.2.1 s_1.2.2.2.2.2.2.2.2 s_1.2.1 p1) fun c_7 =>
some (-c_7.1, c_7.2.1, c_7.2.2.1, c_7.2.2.2.1, c_7.2.2.2.2.1, c_7.2.2.2.2.2.1, c_7.2.2.2.2.2.2.1, c_7.2.2.2.2.2.2.2)) else (
some ((0 : Int64), s_1.2.2.1, s_1.2.2.2.1, s_1.2.2.2.2.1, s_1.2.2.2.2.2.1, s_1.2.2.2.2.2.2.1, s_1.2.2.2.2.2.2.2.1, s_1.2.2.2.2.2.2.2.2)))) fun j_5 =>
lt (s_1.1 + j_5.1) fun x_9 =>
lt (s_1.2.1 + (1 : Int32)) fun x_10 =>
some (Sum.inl (x_9, x_10, j_5.2.1, j_5.2.2.1, j_5.2.2.2.1, j_5.2.2.2.2.1, j_5.2.2.2.2.2.1, j_5.2.2.2.2.2.2.1, j_5.2.2.2.2.2.2.2))) else (
some (Sum.inr (s_1.1, s_1.2.1, s_1.2.2.1, s_1.2.2.2.1, s_1.2.2.2.2.1, s_1.2.2.2.2.2.1, s_1.2.2.2.2.2.2.1, s_1.2.2.2.2.2.2.2.1, s_1.2.2.2.2.2.2.2.2)))
def F_X12_balanceOf (v_this_given : Nat → Int64) (v_this_st : Nat → Int32) (v_this_step : Nat → Int32) (v_this_steps : Int32) (v_this_value : Nat → Int64) (v_this_waiting : Int32) (v_this_waits : Nat → Int32) (v_this_with : Nat → Int32) (p0 : Int32) (p1 : Int32) : Option (Int64 × (Nat → Int64) × (Nat → Int32) × Int32 × (Nat → Int64) × Int32 × (Nat → Int32) × (Nat → Int32)) :=
Option.bind (itr (B_X12_balanceOf_5 v_this_st p0 p1) FU ((0 : Int64), (0 : Int32), v_this_given, v_this_step, v_this_steps, v_this_value, v_this_waiting, v_this_waits, v_this_with)) fun x_2 =>
some (x_2.1, x_2.2.2.1, x_2.2.2.2.1, x_2.2.2.2.2.1, x_2.2.2.2.2.2.1, x_2.2.2.2.2.2.2.1, x_2.2.2.2.2.2.2.2.1, x_2.2.2.2.2.2.2.2.2)

def F_X12_balance (v_this_given : Nat → Int64) (v_this_st : Nat → Int32) (v_this_step : Nat → Int32) (v_this_steps : Int32) (v_this_value : Nat → Int64) (v_this_waiting : Int32) (v_this_waits : Nat → Int32) (v_this_with : Nat → Int32) (p0 : Int32) (p1 : Int32) : Option (Int64 × (Nat → Int64) × (Nat → Int32) × Int32 × (Nat → Int64) × Int32 × (Nat → Int32) × (Nat → Int32)) :=
Option.bind (F_X12_is v_this_st (0 : Int32) p0) fun c_1 =>
Option.bind (if c_1 = 0 then (
some ((-9000000000000000000 : Int64), v_this_given, v_this_step, v_this_steps, v_this_value, v_this_waiting, v_this_waits, v_this_with)) else (
Option.bind (F_X12_isSeason p1) fun c_3 =>
if c_3 = 0 then (
some ((-9000000000000000000 : Int64), v_this_given, v_this_step, v_this_steps, v_this_value, v_this_waiting, v_this_waits, v_this_with)) else (
Option.bind (F_X12_balanceOf v_this_given v_this_st v_this_step v_this_steps v_this_value v_this_waiting v_this_waits v_this_with p0 p1) fun c_4 =>
some (c_4.1, c_4.2.1, c_4.2.2.1, c_4.2.2.2.1, c_4.2.2.2.2.1, c_4.2.2.2.2.2.1, c_4.2.2.2.2.2.2.1, c_4.2.2.2.2.2.2.2)))) fun j_2 =>
some (j_2.1, j_2.2.1, j_2.2.2.1, j_2.2.2.2.1, j_2.2.2.2.2.1, j_2.2.2.2.2.2.1, j_2.2.2.2.2.2.2.1, j_2.2.2.2.2.2.2.2)

def B_X12_fewest_14 (v_this_st : Nat → Int32) (p0 : Int32) (s_2 : Int32 × Int32 × (Nat → Int64) × (Nat → Int64) × (Nat → Int32) × Int32 × (Nat → Int64) × Int32 × (Nat → Int32) × (Nat → Int32)) : Option ((Int32 × Int32 × (Nat → Int64) × (Nat → Int64) × (Nat → Int32) × Int32 × (Nat → Int64) × Int32 × (Nat → Int32) × (Nat → Int32)) ⊕ (Int32 × Int32 × (Nat → Int64) × (Nat → Int64) × (Nat → Int32) × Int32 × (Nat → Int64) × Int32 × (Nat → Int32) × (Nat → Int32))) :=
Option.bind (gI v_this_st 1951 (0 : Int32)) fun t_4 =>
if s_2.2.1 < t_4 then (
Option.bind (F_X12_balanceOf s_2.2.2.1 v_this_st s_2.2.2.2.2.1 s_2.2.2.2.2.2.1 s_2.2.2.2.2.2.2.1 s_2.2.2.2.2.2.2.2.1 s_2.2.2.2.2.2.2.2.2.1 s_2.2.2.2.2.2.2.2.2.2 s_2.2.1 p0) fun c_5 =>
Option.bind (sL s_2.2.2.2.1 10 s_2.1 c_5.1) fun g_6 =>
Option.bind (if c_5.1 = (0 : Int64) then (
some (0 : Int32)) else (
some (1 : Int32))) fun j_7 =>
lt (s_2.1 + j_7) fun x_8 =>
lt (s_2.2.1 + (1 : Int32)) fun x_9 =>
some (Sum.inl (x_8, x_9, c_5.2.1, g_6, c_5.2.2.1, c_5.2.2.2.1, c_5.2.2.2.2.1, c_5.2.2.2.2.2.1, c_5.2.2.2.2.2.2.1, c_5.2.2.2.2.2.2.2))) else (
some (Sum.inr (s_2.1, s_2.2.1, s_2.2.2.1, s_2.2.2.2.1, s_2.2.2.2.2.1, s_2.2.2.2.2.2.1, s_2.2.2.2.2.2.2.1, s_2.2.2.2.2.2.2.2.1, s_2.2.2.2.2.2.2.2.2.1, s_2.2.2.2.2.2.2.2.2.2)))
def B_X12_fewest_87 (x_3 : Int32 × Int32 × (Nat → Int64) × (Nat → Int64) × (Nat → Int32) × Int32 × (Nat → Int64) × Int32 × (Nat → Int32) × (Nat → Int32)) (s_10 : Int32 × (Nat → Int32) × (Nat → Int64)) (s_14 : Int32 × (Nat → Int32) × (Nat → Int64)) : Option ((Int32 × (Nat → Int32) × (Nat → Int64)) ⊕ (Int32 × (Nat → Int32) × (Nat → Int64))) :=
if s_14.1 < x_3.1 then (
Option.bind (if ((s_10.1 >>> (s_14.1 &&& 31)) &&& (1 : Int32)) = (1 : Int32) then (
Option.bind (gL s_14.2.2 1024 s_10.1) fun t_17 =>
Option.bind (gL x_3.2.2.2.1 10 s_14.1) fun t_18 =>
Option.bind (sL s_14.2.2 1024 s_10.1 (t_17 + t_18)) fun g_19 =>
Option.bind (gI s_14.2.1 1024 (s_10.1 ^^^ ((1 : Int32) <<< (s_14.1 &&& 31)))) fun t_20 =>
Option.bind (gI s_14.2.1 1024 s_10.1) fun t_21 =>
Option.bind (if t_21 < t_20 then (
some t_20) else (
Option.bind (gI s_14.2.1 1024 s_10.1) fun t_23 =>
some t_23)) fun j_22 =>
Option.bind (sI s_14.2.1 1024 s_10.1 j_22) fun g_24 =>
some (g_24, g_19)) else (
some (s_14.2.1, s_14.2.2))) fun j_16 =>
lt (s_14.1 + (1 : Int32)) fun x_25 =>
some (Sum.inl (x_25, j_16.1, j_16.2))) else (
some (Sum.inr (s_14.1, s_14.2.1, s_14.2.2)))
def B_X12_fewest_63 (x_3 : Int32 × Int32 × (Nat → Int64) × (Nat → Int64) × (Nat → Int32) × Int32 × (Nat → Int64) × Int32 × (Nat → Int32) × (Nat → Int32)) (s_10 : Int32 × (Nat → Int32) × (Nat → Int64)) : Option ((Int32 × (Nat → Int32) × (Nat → Int64)) ⊕ (Int32 × (Nat → Int32) × (Nat → Int64))) :=
if s_10.1 < ((1 : Int32) <<< (x_3.1 &&& 31)) then (
Option.bind (sL s_10.2.2 1024 s_10.1 (0 : Int64)) fun g_12 =>
Option.bind (sI s_10.2.1 1024 s_10.1 (0 : Int32)) fun g_13 =>
Option.bind (itr (B_X12_fewest_87 x_3 s_10) FU ((0 : Int32), g_13, g_12)) fun x_15 =>
Option.bind (gI x_15.2.1 1024 s_10.1) fun t_26 =>
Option.bind (gL x_15.2.2 1024 s_10.1) fun t_27 =>
Option.bind (if t_27 = (0 : Int64) then (
some (1 : Int32)) else (
some (0 : Int32))) fun j_28 =>
Option.bind (sI x_15.2.1 1024 s_10.1 (t_26 + j_28)) fun g_29 =>
lt (s_10.1 + (1 : Int32)) fun x_30 =>
some (Sum.inl (x_30, g_29, x_15.2.2))) else (
some (Sum.inr (s_10.1, s_10.2.1, s_10.2.2)))
def F_X12_fewest (v_this_given : Nat → Int64) (v_this_most : Nat → Int32) (v_this_net : Nat → Int64) (v_this_st : Nat → Int32) (v_this_step : Nat → Int32) (v_this_steps : Int32) (v_this_together : Nat → Int64) (v_this_value : Nat → Int64) (v_this_waiting : Int32) (v_this_waits : Nat → Int32) (v_this_with : Nat → Int32) (p0 : Int32) : Option (Int32 × (Nat → Int64) × (Nat → Int32) × (Nat → Int64) × (Nat → Int32) × Int32 × (Nat → Int64) × (Nat → Int64) × Int32 × (Nat → Int32) × (Nat → Int32)) :=
Option.bind (F_X12_isSeason p0) fun c_1 =>
if c_1 = 0 then (
some ((-2 : Int32), v_this_given, v_this_most, v_this_net, v_this_step, v_this_steps, v_this_together, v_this_value, v_this_waiting, v_this_waits, v_this_with)) else (
Option.bind (itr (B_X12_fewest_14 v_this_st p0) FU ((0 : Int32), (0 : Int32), v_this_given, v_this_net, v_this_step, v_this_steps, v_this_value, v_this_waiting, v_this_waits, v_this_with)) fun x_3 =>
Option.bind (itr (B_X12_fewest_63 x_3) FU ((1 : Int32), v_this_most, v_this_together)) fun x_11 =>
Option.bind (gI x_11.2.1 1024 (((1 : Int32) <<< (x_3.1 &&& 31)) - (1 : Int32))) fun t_31 =>
some (x_3.1 - t_31, x_3.2.2.1, x_11.2.1, x_3.2.2.2.1, x_3.2.2.2.2.1, x_3.2.2.2.2.2.1, x_11.2.2, x_3.2.2.2.2.2.2.1, x_3.2.2.2.2.2.2.2.1, x_3.2.2.2.2.2.2.2.2.1, x_3.2.2.2.2.2.2.2.2.2))

def B_X12_findOwes_2  (s_1 : Int32 × (Nat → Int32)) : Option ((Int32 × (Nat → Int32)) ⊕ (Int32 × (Nat → Int32))) :=
if s_1.1 < (100 : Int32) then (
Option.bind (sZ s_1.2 100 s_1.1 (0 : Int32)) fun g_3 =>
lt (s_1.1 + (1 : Int32)) fun x_4 =>
some (Sum.inl (x_4, g_3))) else (
some (Sum.inr (s_1.1, s_1.2)))
def B_X12_findOwes_23 (v_this_st : Nat → Int32) (p0 : Int32) (s_5 : Int32 × (Nat → Int64) × (Nat → Int32) × (Nat → Int32) × Int32 × (Nat → Int64) × Int32 × (Nat → Int32) × (Nat → Int32)) : Option ((Int32 × (Nat → Int64) × (Nat → Int32) × (Nat → Int32) × Int32 × (Nat → Int64) × Int32 × (Nat → Int32) × (Nat → Int32)) ⊕ (Int32 × (Nat → Int64) × (Nat → Int32) × (Nat → Int32) × Int32 × (Nat → Int64) × Int32 × (Nat → Int32) × (Nat → Int32))) :=
Option.bind (gI v_this_st 1951 (2 : Int32)) fun t_7 =>
if s_5.1 < t_7 then (
Option.bind (F_X12_debtOf v_this_st s_5.1 (1 : Int32)) fun c_8 =>
Option.bind (F_X12_debtOf v_this_st s_5.1 (0 : Int32)) fun c_9 =>
lt (((10 : Int32) * c_8) + c_9) fun x_10 =>
Option.bind (gI s_5.2.2.1 100 x_10) fun t_11 =>
Option.bind (if t_11 = 0 then (
Option.bind (F_X12_owedOf s_5.2.1 v_this_st s_5.2.2.2.1 s_5.2.2.2.2.1 s_5.2.2.2.2.2.1 s_5.2.2.2.2.2.2.1 s_5.2.2.2.2.2.2.2.1 s_5.2.2.2.2.2.2.2.2 s_5.1 p0) fun c_13 =>
if (0 : Int64) < c_13.1 then (
some ((1 : Int32), c_13.2.1, c_13.2.2.1, c_13.2.2.2.1, c_13.2.2.2.2.1, c_13.2.2.2.2.2.1, c_13.2.2.2.2.2.2.1, c_13.2.2.2.2.2.2.2)) else (
some ((0 : Int32), c_13.2.1, c_13.2.2.1, c_13.2.2.2.1, c_13.2.2.2.2.1, c_13.2.2.2.2.2.1, c_13.2.2.2.2.2.2.1, c_13.2.2.2.2.2.2.2))) else (
some ((1 : Int32), s_5.2.1, s_5.2.2.2.1, s_5.2.2.2.2.1, s_5.2.2.2.2.2.1, s_5.2.2.2.2.2.2.1, s_5.2.2.2.2.2.2.2.1, s_5.2.2.2.2.2.2.2.2))) fun j_12 =>
Option.bind (sZ s_5.2.2.1 100 x_10 j_12.1) fun g_14 =>
lt (s_5.1 + (1 : Int32)) fun x_15 =>
some (Sum.inl (x_15, j_12.2.1, g_14, j_12.2.2.1, j_12.2.2.2.1, j_12.2.2.2.2.1, j_12.2.2.2.2.2.1, j_12.2.2.2.2.2.2.1, j_12.2.2.2.2.2.2.2))) else (
some (Sum.inr (s_5.1, s_5.2.1, s_5.2.2.1, s_5.2.2.2.1, s_5.2.2.2.2.1, s_5.2.2.2.2.2.1, s_5.2.2.2.2.2.2.1, s_5.2.2.2.2.2.2.2.1, s_5.2.2.2.2.2.2.2.2)))
def F_X12_findOwes (v_this_given : Nat → Int64) (v_this_owes : Nat → Int32) (v_this_st : Nat → Int32) (v_this_step : Nat → Int32) (v_this_steps : Int32) (v_this_value : Nat → Int64) (v_this_waiting : Int32) (v_this_waits : Nat → Int32) (v_this_with : Nat → Int32) (p0 : Int32) : Option ((Nat → Int64) × (Nat → Int32) × (Nat → Int32) × Int32 × (Nat → Int64) × Int32 × (Nat → Int32) × (Nat → Int32)) :=
Option.bind (itr (B_X12_findOwes_2) FU ((0 : Int32), v_this_owes)) fun x_2 =>
Option.bind (itr (B_X12_findOwes_23 v_this_st p0) FU ((0 : Int32), v_this_given, x_2.2, v_this_step, v_this_steps, v_this_value, v_this_waiting, v_this_waits, v_this_with)) fun x_6 =>
some (x_6.2.1, x_6.2.2.1, x_6.2.2.2.1, x_6.2.2.2.2.1, x_6.2.2.2.2.2.1, x_6.2.2.2.2.2.2.1, x_6.2.2.2.2.2.2.2.1, x_6.2.2.2.2.2.2.2.2)

def B_X12_findCan_23 (s_1 : Int32 × (Nat → Int32)) (p0 : Int32) (s_3 : Int32 × (Nat → Int32)) (v_this_owes : Nat → Int32) (s_5 : Int32 × Int32) : Option ((Int32 × Int32) ⊕ (Int32 × Int32)) :=
if s_5.2 < (10 : Int32) then (
Option.bind (if s_1.1 = (1 : Int32) then (
if s_5.2 = p0 then (
some (1 : Int32)) else (
some (0 : Int32))) else (
if p0 < s_5.2 then (
Option.bind (gI s_3.2 110 (((10 : Int32) * (s_1.1 - (1 : Int32))) + s_5.2)) fun t_8 =>
if t_8 = 0 then (
some (0 : Int32)) else (
some (1 : Int32))) else (
some (0 : Int32)))) fun j_7 =>
Option.bind (if s_5.1 = 0 then (
if j_7 = 0 then (
some (0 : Int32)) else (
Option.bind (gI v_this_owes 100 (((10 : Int32) * s_3.1) + s_5.2)) fun t_10 =>
if t_10 = 0 then (
some (0 : Int32)) else (
some (1 : Int32)))) else (
some (1 : Int32))) fun j_9 =>
lt (s_5.2 + (1 : Int32)) fun x_11 =>
some (Sum.inl (j_9, x_11))) else (
some (Sum.inr (s_5.1, s_5.2)))
def B_X12_findCan_10 (s_1 : Int32 × (Nat → Int32)) (p0 : Int32) (v_this_owes : Nat → Int32) (s_3 : Int32 × (Nat → Int32)) : Option ((Int32 × (Nat → Int32)) ⊕ (Int32 × (Nat → Int32))) :=
if s_3.1 < (10 : Int32) then (
Option.bind (itr (B_X12_findCan_23 s_1 p0 s_3 v_this_owes) FU ((0 : Int32), p0)) fun x_6 =>
Option.bind (sZ s_3.2 110 (((10 : Int32) * s_1.1) + s_3.1) x_6.1) fun g_12 =>
lt (s_3.1 + (1 : Int32)) fun x_13 =>
some (Sum.inl (x_13, g_12))) else (
some (Sum.inr (s_3.1, s_3.2)))
def B_X12_findCan_2 (p1 : Int32) (p0 : Int32) (v_this_owes : Nat → Int32) (s_1 : Int32 × (Nat → Int32)) : Option ((Int32 × (Nat → Int32)) ⊕ (Int32 × (Nat → Int32))) :=
if p1 < s_1.1 then (
some (Sum.inr (s_1.1, s_1.2))) else (
Option.bind (itr (B_X12_findCan_10 s_1 p0 v_this_owes) FU (p0, s_1.2)) fun x_4 =>
lt (s_1.1 + (1 : Int32)) fun x_14 =>
some (Sum.inl (x_14, x_4.2)))
def F_X12_findCan (v_this_can : Nat → Int32) (v_this_owes : Nat → Int32) (p0 : Int32) (p1 : Int32) : Option (Int32 × (Nat → Int32)) :=
Option.bind (itr (B_X12_findCan_2 p1 p0 v_this_owes) FU ((1 : Int32), v_this_can)) fun x_2 =>
Option.bind (gI x_2.2 110 (((10 : Int32) * p1) + p0)) fun t_15 =>
Option.bind (bZ t_15) fun t_16 =>
some (t_16, x_2.2)

def B_X12_findRing_44 (c_7 : Int32 × (Nat → Int32)) (s_1 : Int32 × (Nat → Int32)) (s_10 : Int32 × (Nat → Int32)) (v_this_owes : Nat → Int32) (s_13 : Int32) : Option ((Int32) ⊕ (Int32)) :=
Option.bind (gI c_7.2 110 (((10 : Int32) * (s_1.1 - s_10.1)) + s_13)) fun t_15 =>
if t_15 = 0 then (
lt (s_13 + (1 : Int32)) fun x_16 =>
some (Sum.inl x_16)) else (
Option.bind (gI s_10.2 10 (s_10.1 - (1 : Int32))) fun t_17 =>
Option.bind (gI v_this_owes 100 (((10 : Int32) * t_17) + s_13)) fun t_18 =>
if t_18 = 0 then (
lt (s_13 + (1 : Int32)) fun x_19 =>
some (Sum.inl x_19)) else (
some (Sum.inr s_13)))
def B_X12_findRing_34 (s_1 : Int32 × (Nat → Int32)) (s_4 : Int32 × (Nat → Int32)) (c_7 : Int32 × (Nat → Int32)) (v_this_owes : Nat → Int32) (s_10 : Int32 × (Nat → Int32)) : Option ((Int32 × (Nat → Int32)) ⊕ (Int32 × (Nat → Int32))) :=
if s_10.1 < s_1.1 then (
lt (s_4.1 + (1 : Int32)) fun x_12 =>
Option.bind (itr (B_X12_findRing_44 c_7 s_1 s_10 v_this_owes) FU x_12) fun x_14 =>
Option.bind (sI s_10.2 10 s_10.1 x_14) fun g_20 =>
lt (s_10.1 + (1 : Int32)) fun x_21 =>
some (Sum.inl (x_21, g_20))) else (
some (Sum.inr (s_10.1, s_10.2)))
def B_X12_findRing_10 (v_this_owes : Nat → Int32) (s_1 : Int32 × (Nat → Int32)) (v_this_row : Nat → Int32) (s_4 : Int32 × (Nat → Int32)) : Option ((Int32 × (Nat → Int32)) ⊕ ((Int32 × (Nat → Int32)) ⊕ (Int32 × (Nat → Int32) × (Nat → Int32)))) :=
if s_4.1 < (10 : Int32) then (
Option.bind (F_X12_findCan s_4.2 v_this_owes s_4.1 s_1.1) fun c_7 =>
if c_7.1 = 0 then (
lt (s_4.1 + (1 : Int32)) fun x_8 =>
some (Sum.inl (x_8, c_7.2))) else (
Option.bind (sI v_this_row 10 (0 : Int32) s_4.1) fun g_9 =>
Option.bind (itr (B_X12_findRing_34 s_1 s_4 c_7 v_this_owes) FU ((1 : Int32), g_9)) fun x_11 =>
some (Sum.inr (Sum.inr (s_1.1, c_7.2, x_11.2))))) else (
some (Sum.inr (Sum.inl (s_4.1, s_4.2))))
def B_X12_findRing_2 (v_this_owes : Nat → Int32) (v_this_row : Nat → Int32) (s_1 : Int32 × (Nat → Int32)) : Option ((Int32 × (Nat → Int32)) ⊕ ((Int32 × (Nat → Int32)) ⊕ (Int32 × (Nat → Int32) × (Nat → Int32)))) :=
if (10 : Int32) < s_1.1 then (
some (Sum.inr (Sum.inl (s_1.1, s_1.2)))) else (
Option.bind (itr (B_X12_findRing_10 v_this_owes s_1 v_this_row) FU ((0 : Int32), s_1.2)) fun x_5 =>
sm x_5 (fun y_6 =>
lt (s_1.1 + (1 : Int32)) fun x_22 =>
some (Sum.inl (x_22, y_6.2))) (fun z => Sum.inr (Sum.inr z)))
def F_X12_findRing (v_this_can : Nat → Int32) (v_this_owes : Nat → Int32) (v_this_row : Nat → Int32) : Option (Int32 × (Nat → Int32) × (Nat → Int32)) :=
Option.bind (itr (B_X12_findRing_2 v_this_owes v_this_row) FU ((2 : Int32), v_this_can)) fun x_2 =>
sm x_2 (fun y_3 =>
some ((0 : Int32), y_3.2, v_this_row)) (fun z => z)

def F_X12_ring (v_this_can : Nat → Int32) (v_this_given : Nat → Int64) (v_this_owes : Nat → Int32) (v_this_row : Nat → Int32) (v_this_st : Nat → Int32) (v_this_step : Nat → Int32) (v_this_steps : Int32) (v_this_value : Nat → Int64) (v_this_waiting : Int32) (v_this_waits : Nat → Int32) (v_this_with : Nat → Int32) (p0 : Int32) (p1 : Int32) : Option (Int32 × (Nat → Int32) × (Nat → Int64) × (Nat → Int32) × (Nat → Int32) × (Nat → Int32) × Int32 × (Nat → Int64) × Int32 × (Nat → Int32) × (Nat → Int32)) :=
Option.bind (F_X12_isSeason p0) fun c_1 =>
if c_1 = 0 then (
some ((-2 : Int32), v_this_can, v_this_given, v_this_owes, v_this_row, v_this_step, v_this_steps, v_this_value, v_this_waiting, v_this_waits, v_this_with)) else (
if p1 < (-1 : Int32) then (
some ((-2 : Int32), v_this_can, v_this_given, v_this_owes, v_this_row, v_this_step, v_this_steps, v_this_value, v_this_waiting, v_this_waits, v_this_with)) else (
Option.bind (F_X12_findOwes v_this_given v_this_owes v_this_st v_this_step v_this_steps v_this_value v_this_waiting v_this_waits v_this_with p0) fun c_2 =>
Option.bind (F_X12_findRing v_this_can c_2.2.1 v_this_row) fun c_3 =>
Option.bind (if p1 = (-1 : Int32) then (
some c_3.1) else (
if p1 < c_3.1 then (
Option.bind (gI c_3.2.2 10 p1) fun t_5 =>
some t_5) else (
some (-1 : Int32)))) fun j_4 =>
some (j_4, c_3.2.1, c_2.1, c_2.2.1, c_3.2.2, c_2.2.2.1, c_2.2.2.2.1, c_2.2.2.2.2.1, c_2.2.2.2.2.2.1, c_2.2.2.2.2.2.2.1, c_2.2.2.2.2.2.2.2)))

def F_X12_names (v_this_st : Nat → Int32) (p0 : Int32) : Option (Int32 × (Nat → Int32)) :=
Option.bind (F_X12_in p0.toInt64 (1 : Int64) (9 : Int64)) fun c_1 =>
if c_1 = 0 then (
some ((-2 : Int32), v_this_st)) else (
Option.bind (sI v_this_st 1951 (12 : Int32) p0) fun g_2 =>
Option.bind (sI g_2 1951 (7 : Int32) (0 : Int32)) fun g_3 =>
some ((1 : Int32), g_3))

def F_X12_isName (v_this_st : Nat → Int32) (p0 : Int32) : Option (Int32) :=
Option.bind (gI v_this_st 1951 (12 : Int32)) fun t_1 =>
Option.bind (F_X12_in p0.toInt64 (0 : Int64) ((t_1 - (1 : Int32)).toInt64)) fun c_2 =>
Option.bind (bZ c_2) fun t_3 =>
some t_3

def F_X12_ahead (v_this_st : Nat → Int32) (p0 : Int32) (p1 : Int32) (p2 : Int32) : Option (Int32 × (Nat → Int32)) :=
Option.bind (F_X12_isName v_this_st p0) fun c_1 =>
if c_1 = 0 then (
some ((-2 : Int32), v_this_st)) else (
Option.bind (F_X12_isName v_this_st p1) fun c_2 =>
if c_2 = 0 then (
some ((-2 : Int32), v_this_st)) else (
if p0 = p1 then (
some ((-2 : Int32), v_this_st)) else (
Option.bind (F_X12_in p2.toInt64 (0 : Int64) (99 : Int64)) fun c_3 =>
if c_3 = 0 then (
some ((-2 : Int32), v_this_st)) else (
Option.bind (gI v_this_st 1951 (7 : Int32)) fun t_4 =>
if t_4 = (40 : Int32) then (
some ((-4 : Int32), v_this_st)) else (
Option.bind (gI v_this_st 1951 (7 : Int32)) fun t_5 =>
lt ((1633 : Int32) + ((3 : Int32) * t_5)) fun x_6 =>
Option.bind (sI v_this_st 1951 x_6 p0) fun g_7 =>
Option.bind (sI g_7 1951 (x_6 + (1 : Int32)) p1) fun g_8 =>
Option.bind (sI g_8 1951 (x_6 + (2 : Int32)) p2) fun g_9 =>
Option.bind (F_X12_one g_9 (7 : Int32)) fun c_10 =>
some (c_10.1 + (1 : Int32), c_10.2))))))

def F_X12_mayCome (v_this_before : Nat → Int32) (p0 : Int32) (p1 : Int32) : Option (Int32) :=
Option.bind (if ((p0 >>> (p1 &&& 31)) &&& (1 : Int32)) = 0 then (
Option.bind (gI v_this_before 9 p1) fun t_2 =>
if (t_2 &&& (p0 ^^^ (-1 : Int32))) = 0 then (
some (1 : Int32)) else (
some (0 : Int32))) else (
some (0 : Int32))) fun j_1 =>
Option.bind (bZ j_1) fun t_3 =>
some t_3

def B_X12_findOrders_10  (s_2 : Int32 × (Nat → Int32)) : Option ((Int32 × (Nat → Int32)) ⊕ (Int32 × (Nat → Int32))) :=
if s_2.1 < (9 : Int32) then (
Option.bind (sI s_2.2 9 s_2.1 (0 : Int32)) fun g_4 =>
lt (s_2.1 + (1 : Int32)) fun x_5 =>
some (Sum.inl (x_5, g_4))) else (
some (Sum.inr (s_2.1, s_2.2)))
def B_X12_findOrders_31 (v_this_st : Nat → Int32) (p0 : Int32) (s_6 : Int32 × (Nat → Int32)) : Option ((Int32 × (Nat → Int32)) ⊕ (Int32 × (Nat → Int32))) :=
Option.bind (gI v_this_st 1951 (7 : Int32)) fun t_8 =>
if s_6.1 < t_8 then (
lt ((1633 : Int32) + ((3 : Int32) * s_6.1)) fun x_9 =>
Option.bind (gI v_this_st 1951 (x_9 + (1 : Int32))) fun t_10 =>
Option.bind (gI s_6.2 9 t_10) fun t_11 =>
Option.bind (gI v_this_st 1951 (x_9 + (2 : Int32))) fun t_12 =>
Option.bind (if p0 < t_12 then (
some (0 : Int32)) else (
Option.bind (gI v_this_st 1951 x_9) fun t_14 =>
some ((1 : Int32) <<< (t_14 &&& 31)))) fun j_13 =>
Option.bind (sI s_6.2 9 t_10 (t_11 ||| j_13)) fun g_15 =>
lt (s_6.1 + (1 : Int32)) fun x_16 =>
some (Sum.inl (x_16, g_15))) else (
some (Sum.inr (s_6.1, s_6.2)))
def B_X12_findOrders_135 (t_1 : Int32) (s_18 : Int32 × (Nat → Int64)) (x_7 : Int32 × (Nat → Int32)) (s_22 : Int32 × (Nat → Int64)) : Option ((Int32 × (Nat → Int64)) ⊕ (Int32 × (Nat → Int64))) :=
if s_22.1 < t_1 then (
Option.bind (if ((s_18.1 >>> (s_22.1 &&& 31)) &&& (1 : Int32)) = (1 : Int32) then (
Option.bind (F_X12_mayCome x_7.2 (s_18.1 ^^^ ((1 : Int32) <<< (s_22.1 &&& 31))) s_22.1) fun c_25 =>
if c_25 = 0 then (
some s_22.2) else (
Option.bind (gL s_22.2 512 s_18.1) fun t_26 =>
Option.bind (gL s_22.2 512 (s_18.1 ^^^ ((1 : Int32) <<< (s_22.1 &&& 31)))) fun t_27 =>
Option.bind (sL s_22.2 512 s_18.1 (t_26 + t_27)) fun g_28 =>
some g_28)) else (
some s_22.2)) fun j_24 =>
lt (s_22.1 + (1 : Int32)) fun x_29 =>
some (Sum.inl (x_29, j_24))) else (
some (Sum.inr (s_22.1, s_22.2)))
def B_X12_findOrders_109 (x_17 : Int32) (t_1 : Int32) (x_7 : Int32 × (Nat → Int32)) (s_18 : Int32 × (Nat → Int64)) : Option ((Int32 × (Nat → Int64)) ⊕ (Int32 × (Nat → Int64))) :=
if x_17 < s_18.1 then (
some (Sum.inr (s_18.1, s_18.2))) else (
Option.bind (if s_18.1 = 0 then (
some (1 : Int64)) else (
some (0 : Int64))) fun j_20 =>
Option.bind (sL s_18.2 512 s_18.1 j_20) fun g_21 =>
Option.bind (itr (B_X12_findOrders_135 t_1 s_18 x_7) FU ((0 : Int32), g_21)) fun x_23 =>
lt (s_18.1 + (1 : Int32)) fun x_30 =>
some (Sum.inl (x_30, x_23.2)))
def B_X12_findOrders_231 (t_1 : Int32) (s_31 : Int32 × (Nat → Int64)) (x_7 : Int32 × (Nat → Int32)) (s_35 : Int32 × (Nat → Int64)) : Option ((Int32 × (Nat → Int64)) ⊕ (Int32 × (Nat → Int64))) :=
if s_35.1 < t_1 then (
Option.bind (gL s_35.2 512 s_31.1) fun t_37 =>
Option.bind (F_X12_mayCome x_7.2 s_31.1 s_35.1) fun c_38 =>
Option.bind (if c_38 = 0 then (
some (0 : Int64)) else (
Option.bind (gL s_35.2 512 (s_31.1 ||| ((1 : Int32) <<< (s_35.1 &&& 31)))) fun t_40 =>
some t_40)) fun j_39 =>
Option.bind (sL s_35.2 512 s_31.1 (t_37 + j_39)) fun g_41 =>
lt (s_35.1 + (1 : Int32)) fun x_42 =>
some (Sum.inl (x_42, g_41))) else (
some (Sum.inr (s_35.1, s_35.2)))
def B_X12_findOrders_205 (x_17 : Int32) (t_1 : Int32) (x_7 : Int32 × (Nat → Int32)) (s_31 : Int32 × (Nat → Int64)) : Option ((Int32 × (Nat → Int64)) ⊕ (Int32 × (Nat → Int64))) :=
if s_31.1 < 0 then (
some (Sum.inr (s_31.1, s_31.2))) else (
Option.bind (if s_31.1 = x_17 then (
some (1 : Int64)) else (
some (0 : Int64))) fun j_33 =>
Option.bind (sL s_31.2 512 s_31.1 j_33) fun g_34 =>
Option.bind (itr (B_X12_findOrders_231 t_1 s_31 x_7) FU ((0 : Int32), g_34)) fun x_36 =>
lt (s_31.1 + (-1 : Int32)) fun x_43 =>
some (Sum.inl (x_43, x_36.2)))
def F_X12_findOrders (v_this_before : Nat → Int32) (v_this_on : Nat → Int64) (v_this_st : Nat → Int32) (v_this_to : Nat → Int64) (p0 : Int32) : Option (Int64 × (Nat → Int32) × (Nat → Int64) × (Nat → Int64)) :=
Option.bind (gI v_this_st 1951 (12 : Int32)) fun t_1 =>
Option.bind (itr (B_X12_findOrders_10) FU ((0 : Int32), v_this_before)) fun x_3 =>
Option.bind (itr (B_X12_findOrders_31 v_this_st p0) FU ((0 : Int32), x_3.2)) fun x_7 =>
lt (((1 : Int32) <<< (t_1 &&& 31)) - (1 : Int32)) fun x_17 =>
Option.bind (itr (B_X12_findOrders_109 x_17 t_1 x_7) FU ((0 : Int32), v_this_to)) fun x_19 =>
Option.bind (itr (B_X12_findOrders_205 x_17 t_1 x_7) FU (x_17, v_this_on)) fun x_32 =>
Option.bind (gL x_32.2 512 (0 : Int32)) fun t_44 =>
some (t_44, x_7.2, x_32.2, x_19.2)

def F_X12_isKnown (p0 : Int32) : Option (Int32) :=
Option.bind (F_X12_in p0.toInt64 (0 : Int64) (99 : Int64)) fun c_1 =>
Option.bind (bZ c_1) fun t_2 =>
some t_2

def F_X12_orders (v_this_before : Nat → Int32) (v_this_on : Nat → Int64) (v_this_st : Nat → Int32) (v_this_to : Nat → Int64) (p0 : Int32) : Option (Int32 × (Nat → Int32) × (Nat → Int64) × (Nat → Int64)) :=
Option.bind (F_X12_isKnown p0) fun c_1 =>
Option.bind (if c_1 = 0 then (
some ((-2 : Int32), v_this_before, v_this_on, v_this_to)) else (
Option.bind (F_X12_findOrders v_this_before v_this_on v_this_st v_this_to p0) fun c_3 =>
some (c_3.1.toInt32, c_3.2.1, c_3.2.2.1, c_3.2.2.2))) fun j_2 =>
some (j_2.1, j_2.2.1, j_2.2.2.1, j_2.2.2.2)

def B_X12_sizeOf_4  (s_1 : Int32 × Int32) : Option ((Int32 × Int32) ⊕ (Int32 × Int32)) :=
if 0 < s_1.2 then (
lt (s_1.1 + (s_1.2 &&& (1 : Int32))) fun x_3 =>
lt (s_1.2 >>> ((1 : Int32) &&& 31)) fun x_4 =>
some (Sum.inl (x_3, x_4))) else (
some (Sum.inr (s_1.1, s_1.2)))
def F_X12_sizeOf (p0 : Int32) : Option (Int32) :=
Option.bind (itr (B_X12_sizeOf_4) FU ((0 : Int32), p0)) fun x_2 =>
some x_2.1

def B_X12_place_40 (v_this_st : Nat → Int32) (c_4 : Int64 × (Nat → Int32) × (Nat → Int64) × (Nat → Int64)) (p0 : Int32) (p2 : Int32) (s_5 : Int32 × Int32) : Option ((Int32 × Int32) ⊕ (Int32 × Int32)) :=
Option.bind (gI v_this_st 1951 (12 : Int32)) fun t_7 =>
if s_5.2 < ((1 : Int32) <<< (t_7 &&& 31)) then (
Option.bind (F_X12_mayCome c_4.2.1 s_5.2 p0) fun c_8 =>
Option.bind (if c_8 = 0 then (
some s_5.1) else (
Option.bind (gL c_4.2.2.2 512 s_5.2) fun t_10 =>
if (0 : Int64) < t_10 then (
Option.bind (gL c_4.2.2.1 512 (s_5.2 ||| ((1 : Int32) <<< (p0 &&& 31)))) fun t_11 =>
if (0 : Int64) < t_11 then (
Option.bind (F_X12_sizeOf s_5.2) fun c_12 =>
Option.bind (if s_5.1 = (-1 : Int32) then (
some c_12) else (
if p2 = 0 then (
if c_12 < s_5.1 then (
some c_12) else (
some s_5.1)) else (
if s_5.1 < c_12 then (
some c_12) else (
some s_5.1)))) fun j_13 =>
some j_13) else (
some s_5.1)) else (
some s_5.1))) fun j_9 =>
lt (s_5.2 + (1 : Int32)) fun x_14 =>
some (Sum.inl (j_9, x_14))) else (
some (Sum.inr (s_5.1, s_5.2)))
def F_X12_place (v_this_before : Nat → Int32) (v_this_on : Nat → Int64) (v_this_st : Nat → Int32) (v_this_to : Nat → Int64) (p0 : Int32) (p1 : Int32) (p2 : Int32) : Option (Int32 × (Nat → Int32) × (Nat → Int64) × (Nat → Int64)) :=
Option.bind (F_X12_isName v_this_st p0) fun c_1 =>
if c_1 = 0 then (
some ((-2 : Int32), v_this_before, v_this_on, v_this_to)) else (
Option.bind (F_X12_isKnown p1) fun c_2 =>
if c_2 = 0 then (
some ((-2 : Int32), v_this_before, v_this_on, v_this_to)) else (
Option.bind (F_X12_in p2.toInt64 (0 : Int64) (1 : Int64)) fun c_3 =>
if c_3 = 0 then (
some ((-2 : Int32), v_this_before, v_this_on, v_this_to)) else (
Option.bind (F_X12_findOrders v_this_before v_this_on v_this_st v_this_to p1) fun c_4 =>
Option.bind (itr (B_X12_place_40 v_this_st c_4 p0 p2) FU ((-1 : Int32), (0 : Int32))) fun x_6 =>
some (x_6.1, c_4.2.1, c_4.2.2.1, c_4.2.2.2))))

def B_X12_order_47 (c_3 : Int64 × (Nat → Int32) × (Nat → Int64) × (Nat → Int64)) (s_4 : Int32 × Int32 × Int32) (s_6 : Int32) : Option ((Int32) ⊕ (Int32)) :=
Option.bind (F_X12_mayCome c_3.2.1 s_4.1 s_6) fun c_8 =>
if c_8 = 0 then (
lt (s_6 + (1 : Int32)) fun x_9 =>
some (Sum.inl x_9)) else (
Option.bind (gL c_3.2.2.1 512 (s_4.1 ||| ((1 : Int32) <<< (s_6 &&& 31)))) fun t_10 =>
if t_10 = (0 : Int64) then (
lt (s_6 + (1 : Int32)) fun x_11 =>
some (Sum.inl x_11)) else (
some (Sum.inr s_6)))
def B_X12_order_38 (p1 : Int32) (c_3 : Int64 × (Nat → Int32) × (Nat → Int64) × (Nat → Int64)) (s_4 : Int32 × Int32 × Int32) : Option ((Int32 × Int32 × Int32) ⊕ (Int32 × Int32 × Int32)) :=
if p1 < s_4.2.2 then (
some (Sum.inr (s_4.1, s_4.2.1, s_4.2.2))) else (
Option.bind (itr (B_X12_order_47 c_3 s_4) FU (0 : Int32)) fun x_7 =>
lt (s_4.1 ||| ((1 : Int32) <<< (x_7 &&& 31))) fun x_12 =>
lt (s_4.2.2 + (1 : Int32)) fun x_13 =>
some (Sum.inl (x_12, x_7, x_13)))
def F_X12_order (v_this_before : Nat → Int32) (v_this_on : Nat → Int64) (v_this_st : Nat → Int32) (v_this_to : Nat → Int64) (p0 : Int32) (p1 : Int32) : Option (Int32 × (Nat → Int32) × (Nat → Int64) × (Nat → Int64)) :=
Option.bind (F_X12_isKnown p0) fun c_1 =>
if c_1 = 0 then (
some ((-2 : Int32), v_this_before, v_this_on, v_this_to)) else (
Option.bind (F_X12_isName v_this_st p1) fun c_2 =>
if c_2 = 0 then (
some ((-2 : Int32), v_this_before, v_this_on, v_this_to)) else (
Option.bind (F_X12_findOrders v_this_before v_this_on v_this_st v_this_to p0) fun c_3 =>
if c_3.1 = (0 : Int64) then (
some ((-1 : Int32), c_3.2.1, c_3.2.2.1, c_3.2.2.2)) else (
Option.bind (itr (B_X12_order_38 p1 c_3) FU ((0 : Int32), (0 : Int32), (0 : Int32))) fun x_5 =>
some (x_5.2.1, c_3.2.1, c_3.2.2.1, c_3.2.2.2))))

def F_X12_letter (v_this_st : Nat → Int32) (p0 : Int32) (p1 : Int32) (p2 : Int32) (p3 : Int32) (p4 : Int32) : Option (Int32 × (Nat → Int32)) :=
Option.bind (F_X12_is v_this_st (0 : Int32) p0) fun c_1 =>
if c_1 = 0 then (
some ((-2 : Int32), v_this_st)) else (
Option.bind (F_X12_is v_this_st (0 : Int32) p1) fun c_2 =>
if c_2 = 0 then (
some ((-2 : Int32), v_this_st)) else (
if p0 = p1 then (
some ((-2 : Int32), v_this_st)) else (
Option.bind (F_X12_in p2.toInt64 (0 : Int64) (9999 : Int64)) fun c_3 =>
if c_3 = 0 then (
some ((-2 : Int32), v_this_st)) else (
Option.bind (F_X12_in p3.toInt64 p2.toInt64 (9999 : Int64)) fun c_4 =>
if c_4 = 0 then (
some ((-2 : Int32), v_this_st)) else (
Option.bind (F_X12_in p4.toInt64 (-1 : Int64) (7 : Int64)) fun c_5 =>
if c_5 = 0 then (
some ((-2 : Int32), v_this_st)) else (
Option.bind (gI v_this_st 1951 (8 : Int32)) fun t_6 =>
if t_6 = (30 : Int32) then (
some ((-4 : Int32), v_this_st)) else (
Option.bind (gI v_this_st 1951 (8 : Int32)) fun t_7 =>
lt ((1753 : Int32) + ((5 : Int32) * t_7)) fun x_8 =>
Option.bind (sI v_this_st 1951 x_8 p0) fun g_9 =>
Option.bind (sI g_9 1951 (x_8 + (1 : Int32)) p1) fun g_10 =>
Option.bind (sI g_10 1951 (x_8 + (2 : Int32)) p2) fun g_11 =>
Option.bind (sI g_11 1951 (x_8 + (3 : Int32)) p3) fun g_12 =>
Option.bind (sI g_12 1951 (x_8 + (4 : Int32)) p4) fun g_13 =>
Option.bind (F_X12_one g_13 (8 : Int32)) fun c_14 =>
some (c_14.1, c_14.2))))))))

def B_X12_known_5 (v_this_st : Nat → Int32) (p0 : Int32) (p1 : Int32) (v_this_load : Nat → Int32) (s_1 : Int32 × Int32) : Option ((Int32 × Int32) ⊕ (Int32 × Int32)) :=
Option.bind (gI v_this_st 1951 (8 : Int32)) fun t_3 =>
if s_1.2 < t_3 then (
lt ((1753 : Int32) + ((5 : Int32) * s_1.2)) fun x_4 =>
Option.bind (gI v_this_st 1951 x_4) fun t_5 =>
Option.bind (if t_5 = p0 then (
Option.bind (gI v_this_st 1951 (x_4 + (2 : Int32))) fun t_7 =>
if p1 < t_7 then (
some (0 : Int32)) else (
Option.bind (gI v_this_st 1951 (x_4 + (4 : Int32))) fun t_8 =>
if t_8 = (-1 : Int32) then (
some (0 : Int32)) else (
Option.bind (gI v_this_st 1951 (x_4 + (4 : Int32))) fun t_9 =>
some ((1 : Int32) <<< (t_9 &&& 31))))) else (
some (0 : Int32))) fun j_6 =>
lt (s_1.1 ||| j_6) fun x_10 =>
Option.bind (gI v_this_st 1951 (x_4 + (1 : Int32))) fun t_11 =>
Option.bind (if t_11 = p0 then (
Option.bind (gI v_this_st 1951 (x_4 + (3 : Int32))) fun t_13 =>
if p1 < t_13 then (
some (0 : Int32)) else (
Option.bind (gI v_this_load 30 s_1.2) fun t_14 =>
some t_14)) else (
some (0 : Int32))) fun j_12 =>
lt (x_10 ||| j_12) fun x_15 =>
lt (s_1.2 + (1 : Int32)) fun x_16 =>
some (Sum.inl (x_15, x_16))) else (
some (Sum.inr (s_1.1, s_1.2)))
def F_X12_known (v_this_load : Nat → Int32) (v_this_st : Nat → Int32) (p0 : Int32) (p1 : Int32) : Option (Int32) :=
Option.bind (itr (B_X12_known_5 v_this_st p0 p1 v_this_load) FU ((0 : Int32), (0 : Int32))) fun x_2 =>
some x_2.1

def B_X12_findLoads_2  (s_1 : Int32 × (Nat → Int32)) : Option ((Int32 × (Nat → Int32)) ⊕ (Int32 × (Nat → Int32))) :=
if s_1.1 < (30 : Int32) then (
Option.bind (sI s_1.2 30 s_1.1 (0 : Int32)) fun g_3 =>
lt (s_1.1 + (1 : Int32)) fun x_4 =>
some (Sum.inl (x_4, g_3))) else (
some (Sum.inr (s_1.1, s_1.2)))
def B_X12_findLoads_31 (v_this_st : Nat → Int32) (s_7 : Int32 × Int32 × (Nat → Int32)) : Option ((Int32 × Int32 × (Nat → Int32)) ⊕ (Int32 × Int32 × (Nat → Int32))) :=
Option.bind (gI v_this_st 1951 (8 : Int32)) fun t_9 =>
if s_7.2.1 < t_9 then (
Option.bind (gI v_this_st 1951 ((1753 : Int32) + ((5 : Int32) * s_7.2.1))) fun t_10 =>
Option.bind (gI v_this_st 1951 (((1753 : Int32) + ((5 : Int32) * s_7.2.1)) + (2 : Int32))) fun t_11 =>
Option.bind (F_X12_known s_7.2.2 v_this_st t_10 t_11) fun c_12 =>
Option.bind (if s_7.1 = 0 then (
Option.bind (gI s_7.2.2 30 s_7.2.1) fun t_14 =>
if c_12 = t_14 then (
some (0 : Int32)) else (
some (1 : Int32))) else (
some (1 : Int32))) fun j_13 =>
Option.bind (sI s_7.2.2 30 s_7.2.1 c_12) fun g_15 =>
lt (s_7.2.1 + (1 : Int32)) fun x_16 =>
some (Sum.inl (j_13, x_16, g_15))) else (
some (Sum.inr (s_7.1, s_7.2.1, s_7.2.2)))
def B_X12_findLoads_23 (v_this_st : Nat → Int32) (s_5 : Int32 × (Nat → Int32)) : Option ((Int32 × (Nat → Int32)) ⊕ (Int32 × (Nat → Int32))) :=
if s_5.1 = 0 then (
some (Sum.inr (s_5.1, s_5.2))) else (
Option.bind (itr (B_X12_findLoads_31 v_this_st) FU ((0 : Int32), (0 : Int32), s_5.2)) fun x_8 =>
some (Sum.inl (x_8.1, x_8.2.2)))
def F_X12_findLoads (v_this_load : Nat → Int32) (v_this_st : Nat → Int32) : Option ((Nat → Int32)) :=
Option.bind (itr (B_X12_findLoads_2) FU ((0 : Int32), v_this_load)) fun x_2 =>
Option.bind (itr (B_X12_findLoads_23 v_this_st) FU ((1 : Int32), x_2.2)) fun x_6 =>
some x_6.2

def F_X12_knows (v_this_load : Nat → Int32) (v_this_st : Nat → Int32) (p0 : Int32) (p1 : Int32) (p2 : Int32) : Option (Int32 × (Nat → Int32)) :=
Option.bind (F_X12_is v_this_st (0 : Int32) p0) fun c_1 =>
if c_1 = 0 then (
some ((-2 : Int32), v_this_load)) else (
Option.bind (F_X12_in p1.toInt64 (0 : Int64) (7 : Int64)) fun c_2 =>
if c_2 = 0 then (
some ((-2 : Int32), v_this_load)) else (
Option.bind (F_X12_in p2.toInt64 (0 : Int64) (9999 : Int64)) fun c_3 =>
if c_3 = 0 then (
some ((-2 : Int32), v_this_load)) else (
Option.bind (F_X12_findLoads v_this_load v_this_st) fun c_4 =>
Option.bind (F_X12_known c_4 v_this_st p0 p2) fun c_5 =>
some ((c_5 >>> (p1 &&& 31)) &&& (1 : Int32), c_4))))

def F_X12_carries (v_this_load : Nat → Int32) (v_this_st : Nat → Int32) (p0 : Int32) : Option (Int32 × (Nat → Int32)) :=
Option.bind (F_X12_is v_this_st (8 : Int32) p0) fun c_1 =>
if c_1 = 0 then (
some ((-2 : Int32), v_this_load)) else (
Option.bind (F_X12_findLoads v_this_load v_this_st) fun c_2 =>
Option.bind (gI c_2 30 p0) fun t_3 =>
some (t_3, c_2))

def F_X12_mention (v_this_st : Nat → Int32) (p0 : Int32) (p1 : Int32) (p2 : Int32) : Option (Int32 × (Nat → Int32)) :=
Option.bind (F_X12_in p0.toInt64 (-1 : Int64) (4 : Int64)) fun c_1 =>
if c_1 = 0 then (
some ((-2 : Int32), v_this_st)) else (
Option.bind (F_X12_in p1.toInt64 (-1 : Int64) (9 : Int64)) fun c_2 =>
if c_2 = 0 then (
some ((-2 : Int32), v_this_st)) else (
Option.bind (F_X12_isSeason p2) fun c_3 =>
if c_3 = 0 then (
some ((-2 : Int32), v_this_st)) else (
Option.bind (gI v_this_st 1951 (9 : Int32)) fun t_4 =>
if t_4 = (10 : Int32) then (
some ((-4 : Int32), v_this_st)) else (
Option.bind (gI v_this_st 1951 (9 : Int32)) fun t_5 =>
lt ((1903 : Int32) + ((3 : Int32) * t_5)) fun x_6 =>
Option.bind (sI v_this_st 1951 x_6 p0) fun g_7 =>
Option.bind (sI g_7 1951 (x_6 + (1 : Int32)) p1) fun g_8 =>
Option.bind (sI g_8 1951 (x_6 + (2 : Int32)) p2) fun g_9 =>
Option.bind (F_X12_one g_9 (9 : Int32)) fun c_10 =>
some (c_10.1, c_10.2)))))

def F_X12_mayBeOne (v_this_st : Nat → Int32) (p0 : Int32) (p1 : Int32) : Option (Int32) :=
lt ((1903 : Int32) + ((3 : Int32) * p0)) fun x_1 =>
lt ((1903 : Int32) + ((3 : Int32) * p1)) fun x_2 =>
Option.bind (gI v_this_st 1951 x_1) fun t_3 =>
Option.bind (if t_3 = (-1 : Int32) then (
some (1 : Int32)) else (
Option.bind (gI v_this_st 1951 x_2) fun t_5 =>
if t_5 = (-1 : Int32) then (
some (1 : Int32)) else (
Option.bind (gI v_this_st 1951 x_1) fun t_6 =>
Option.bind (gI v_this_st 1951 x_2) fun t_7 =>
if t_6 = t_7 then (
some (1 : Int32)) else (
some (0 : Int32))))) fun j_4 =>
Option.bind (gI v_this_st 1951 (x_1 + (1 : Int32))) fun t_8 =>
Option.bind (if t_8 = (-1 : Int32) then (
some (1 : Int32)) else (
Option.bind (gI v_this_st 1951 (x_2 + (1 : Int32))) fun t_10 =>
if t_10 = (-1 : Int32) then (
some (1 : Int32)) else (
Option.bind (gI v_this_st 1951 (x_1 + (1 : Int32))) fun t_11 =>
Option.bind (gI v_this_st 1951 (x_2 + (1 : Int32))) fun t_12 =>
if t_11 = t_12 then (
some (1 : Int32)) else (
some (0 : Int32))))) fun j_9 =>
Option.bind (if j_4 = 0 then (
some (0 : Int32)) else (
if j_9 = 0 then (
some (0 : Int32)) else (
Option.bind (gI v_this_st 1951 (x_1 + (2 : Int32))) fun t_14 =>
Option.bind (gI v_this_st 1951 (x_2 + (2 : Int32))) fun t_15 =>
Option.bind (F_X12_in ((t_14 - t_15).toInt64) (-40 : Int64) (40 : Int64)) fun c_16 =>
if c_16 = 0 then (
some (0 : Int32)) else (
some (1 : Int32))))) fun j_13 =>
Option.bind (bZ j_13) fun t_17 =>
some t_17

def B_X12_mayFollow_36 (p0 : Int32) (v_this_lead : Nat → Int32) (v_this_st : Nat → Int32) (s_5 : Int32) : Option ((Int32) ⊕ ((Int32) ⊕ (Int32))) :=
if s_5 < p0 then (
Option.bind (gI v_this_lead 10 s_5) fun t_8 =>
Option.bind (gI v_this_lead 10 p0) fun t_9 =>
if t_8 = t_9 then (
Option.bind (F_X12_mayBeOne v_this_st p0 s_5) fun c_11 =>
if c_11 = 0 then (
some (Sum.inr (Sum.inr (0 : Int32)))) else (
lt (s_5 + (1 : Int32)) fun x_12 =>
some (Sum.inl x_12))) else (
lt (s_5 + (1 : Int32)) fun x_10 =>
some (Sum.inl x_10))) else (
some (Sum.inr (Sum.inl s_5)))
def F_X12_mayFollow (v_this_lead : Nat → Int32) (v_this_st : Nat → Int32) (p0 : Int32) : Option (Int32) :=
Option.bind (gI v_this_lead 10 p0) fun t_1 =>
if t_1 = p0 then (
some (1 : Int32)) else (
Option.bind (gI v_this_lead 10 p0) fun t_2 =>
Option.bind (gI v_this_lead 10 t_2) fun t_3 =>
Option.bind (gI v_this_lead 10 p0) fun t_4 =>
if t_3 = t_4 then (
Option.bind (itr (B_X12_mayFollow_36 p0 v_this_lead v_this_st) FU (0 : Int32)) fun x_6 =>
sm x_6 (fun y_7 =>
some (1 : Int32)) (fun z => z)) else (
some (0 : Int32)))

def B_X12_findMen_99 (t_1 : Int32) (g_8 : Nat → Int32) (s_11 : Int32 × Int32) : Option ((Int32 × Int32) ⊕ (Int32 × Int32)) :=
if s_11.2 < t_1 then (
Option.bind (gI g_8 10 s_11.2) fun t_13 =>
Option.bind (if t_13 = s_11.2 then (
some (1 : Int32)) else (
some (0 : Int32))) fun j_14 =>
lt (s_11.1 + j_14) fun x_15 =>
lt (s_11.2 + (1 : Int32)) fun x_16 =>
some (Sum.inl (x_15, x_16))) else (
some (Sum.inr (s_11.1, s_11.2)))
def B_X12_findMen_150 (t_1 : Int32) (g_8 : Nat → Int32) (s_19 : Int32 × (Nat → Int32)) : Option ((Int32 × (Nat → Int32)) ⊕ (Int32 × (Nat → Int32))) :=
if s_19.1 < t_1 then (
Option.bind (gI g_8 10 s_19.1) fun t_21 =>
Option.bind (sI s_19.2 10 s_19.1 t_21) fun g_22 =>
lt (s_19.1 + (1 : Int32)) fun x_23 =>
some (Sum.inl (x_23, g_22))) else (
some (Sum.inr (s_19.1, s_19.2)))
def J_X12_findMen_4_144 (t_1 : Int32) (g_8 : Nat → Int32) (s_5 : Int32 × Int32 × (Nat → Int32) × (Nat → Int32)) (x_12 : Int32 × Int32) (v_18 : Unit) : Option (Int32 × (Nat → Int32)) :=
Option.bind (itr (B_X12_findMen_150 t_1 g_8) FU ((0 : Int32), s_5.2.2.1)) fun x_20 =>
some (x_12.1, x_20.2)
def B_X12_findMen_35 (v_this_st : Nat → Int32) (t_1 : Int32) (s_5 : Int32 × Int32 × (Nat → Int32) × (Nat → Int32)) : Option ((Int32 × Int32 × (Nat → Int32) × (Nat → Int32)) ⊕ (Int32 × Int32 × (Nat → Int32) × (Nat → Int32))) :=
if s_5.2.1 < 0 then (
some (Sum.inr (s_5.1, s_5.2.1, s_5.2.2.1, s_5.2.2.2))) else (
Option.bind (gI s_5.2.2.2 10 s_5.2.1) fun t_7 =>
Option.bind (sI s_5.2.2.2 10 s_5.2.1 (t_7 + (1 : Int32))) fun g_8 =>
Option.bind (gI g_8 10 s_5.2.1) fun t_9 =>
if s_5.2.1 < t_9 then (
lt (s_5.2.1 + (-1 : Int32)) fun x_26 =>
some (Sum.inl (s_5.1, x_26, s_5.2.2.1, g_8))) else (
Option.bind (F_X12_mayFollow g_8 v_this_st s_5.2.1) fun c_10 =>
if c_10 = 0 then (
some (Sum.inl (s_5.1, s_5.2.1, s_5.2.2.1, g_8))) else (
if (s_5.2.1 + (1 : Int32)) < t_1 then (
lt (s_5.2.1 + (1 : Int32)) fun x_24 =>
Option.bind (sI g_8 10 x_24 (-1 : Int32)) fun g_25 =>
some (Sum.inl (s_5.1, x_24, s_5.2.2.1, g_25))) else (
Option.bind (itr (B_X12_findMen_99 t_1 g_8) FU ((0 : Int32), (0 : Int32))) fun x_12 =>
Option.bind (if s_5.1 = (-1 : Int32) then (
J_X12_findMen_4_144 t_1 g_8 s_5 x_12 ()) else (
if x_12.1 < s_5.1 then (
J_X12_findMen_4_144 t_1 g_8 s_5 x_12 ()) else (
some (s_5.1, s_5.2.2.1)))) fun j_17 =>
some (Sum.inl (j_17.1, s_5.2.1, j_17.2, g_8))))))
def F_X12_findMen (v_this_bestLead : Nat → Int32) (v_this_lead : Nat → Int32) (v_this_st : Nat → Int32) : Option (Int32 × (Nat → Int32) × (Nat → Int32)) :=
Option.bind (gI v_this_st 1951 (9 : Int32)) fun t_1 =>
Option.bind (if t_1 = 0 then (
some (0 : Int32)) else (
some (-1 : Int32))) fun j_2 =>
Option.bind (if t_1 = 0 then (
some (-1 : Int32)) else (
some (0 : Int32))) fun j_3 =>
Option.bind (sI v_this_lead 10 (0 : Int32) (-1 : Int32)) fun g_4 =>
Option.bind (itr (B_X12_findMen_35 v_this_st t_1) FU (j_2, j_3, v_this_bestLead, g_4)) fun x_6 =>
some (x_6.1, x_6.2.2.1, x_6.2.2.2)

def J_X12_men_1_18 (v_this_bestLead : Nat → Int32) (v_this_lead : Nat → Int32) (v_this_st : Nat → Int32) (p0 : Int32) (v_1 : Unit) : Option (Int32 × (Nat → Int32) × (Nat → Int32)) :=
Option.bind (F_X12_findMen v_this_bestLead v_this_lead v_this_st) fun c_2 =>
Option.bind (if p0 = (-1 : Int32) then (
some c_2.1) else (
Option.bind (gI c_2.2.1 10 p0) fun t_4 =>
some t_4)) fun j_3 =>
some (j_3, c_2.2.1, c_2.2.2)
def F_X12_men (v_this_bestLead : Nat → Int32) (v_this_lead : Nat → Int32) (v_this_st : Nat → Int32) (p0 : Int32) : Option (Int32 × (Nat → Int32) × (Nat → Int32)) :=
if p0 = (-1 : Int32) then (
J_X12_men_1_18 v_this_bestLead v_this_lead v_this_st p0 ()) else (
Option.bind (F_X12_is v_this_st (9 : Int32) p0) fun c_5 =>
if c_5 = 0 then (
some ((-10 : Int32), v_this_bestLead, v_this_lead)) else (
J_X12_men_1_18 v_this_bestLead v_this_lead v_this_st p0 ()))

def F_X12_load (v_this_st : Nat → Int32) (p0 : Int32) (p1 : Int32) (p2 : Int32) : Option (Int32 × (Nat → Int32)) :=
Option.bind (F_X12_is v_this_st (0 : Int32) p0) fun c_1 =>
if c_1 = 0 then (
some ((-2 : Int32), v_this_st)) else (
Option.bind (F_X12_isWeight p1) fun c_2 =>
if c_2 = 0 then (
some ((-2 : Int32), v_this_st)) else (
Option.bind (F_X12_in p2.toInt64 (0 : Int64) (1000000 : Int64)) fun c_3 =>
if c_3 = 0 then (
some ((-2 : Int32), v_this_st)) else (
Option.bind (gI v_this_st 1951 (10 : Int32)) fun t_4 =>
if t_4 = (6 : Int32) then (
some ((-4 : Int32), v_this_st)) else (
Option.bind (gI v_this_st 1951 (10 : Int32)) fun t_5 =>
lt ((1933 : Int32) + ((3 : Int32) * t_5)) fun x_6 =>
Option.bind (sI v_this_st 1951 x_6 p0) fun g_7 =>
Option.bind (sI g_7 1951 (x_6 + (1 : Int32)) p1) fun g_8 =>
Option.bind (sI g_8 1951 (x_6 + (2 : Int32)) p2) fun g_9 =>
Option.bind (F_X12_one g_9 (10 : Int32)) fun c_10 =>
some (c_10.1, c_10.2)))))

def F_X12_unload (v_this_st : Nat → Int32) : Option (Int32 × (Nat → Int32)) :=
Option.bind (F_X12_puts v_this_st (10 : Int32) (0 : Int32)) fun c_1 =>
some (c_1.1, c_1.2)

def F_X12_price (v_this_st : Nat → Int32) (p0 : Int32) (p1 : Int32) : Option (Int32 × (Nat → Int32)) :=
Option.bind (F_X12_in p0.toInt64 (0 : Int64) (2 : Int64)) fun c_1 =>
Option.bind (if c_1 = 0 then (
some ((-2 : Int32), v_this_st)) else (
Option.bind (F_X12_in p1.toInt64 (0 : Int64) (1000 : Int64)) fun c_3 =>
if c_3 = 0 then (
some ((-2 : Int32), v_this_st)) else (
Option.bind (F_X12_puts v_this_st ((13 : Int32) + p0) p1) fun c_4 =>
some (c_4.1, c_4.2)))) fun j_2 =>
some (j_2.1, j_2.2)

def B_X12_findSilver_92 (s_5 : Int32 × (Nat → Int64) × (Nat → Int64) × (Nat → Int32) × Int32 × (Nat → Int64) × Int32 × (Nat → Int32) × (Nat → Int32)) (v_this_st : Nat → Int32) (j_7 : Int64 × (Nat → Int64) × (Nat → Int32) × Int32 × (Nat → Int64) × Int32 × (Nat → Int32) × (Nat → Int32)) (x_4 : Int32) (s_1 : Int32 × (Nat → Int64) × (Nat → Int64) × (Nat → Int32) × Int32 × (Nat → Int64) × Int32 × (Nat → Int32) × (Nat → Int32)) (s_15 : Int32 × (Nat → Int64)) : Option ((Int32 × (Nat → Int64)) ⊕ (Int32 × (Nat → Int64))) :=
if s_15.1 < (3 : Int32) then (
Option.bind (if s_5.1 = (2 : Int32) then (
some (0 : Int64)) else (
Option.bind (gI v_this_st 1951 ((13 : Int32) + s_15.1)) fun t_18 =>
Option.bind (qL (j_7.1 * t_18.toInt64) (100 : Int64)) fun t_19 =>
Option.bind (gI v_this_st 1951 (x_4 + (2 : Int32))) fun t_20 =>
some (t_19 - t_20.toInt64))) fun j_17 =>
Option.bind (sL s_15.2 54 ((((9 : Int32) * s_1.1) + ((3 : Int32) * s_5.1)) + s_15.1) j_17) fun g_21 =>
lt (s_15.1 + (1 : Int32)) fun x_22 =>
some (Sum.inl (x_22, g_21))) else (
some (Sum.inr (s_15.1, s_15.2)))
def B_X12_findSilver_24 (v_this_st : Nat → Int32) (x_4 : Int32) (p0 : Int32) (s_1 : Int32 × (Nat → Int64) × (Nat → Int64) × (Nat → Int32) × Int32 × (Nat → Int64) × Int32 × (Nat → Int32) × (Nat → Int32)) (s_5 : Int32 × (Nat → Int64) × (Nat → Int64) × (Nat → Int32) × Int32 × (Nat → Int64) × Int32 × (Nat → Int32) × (Nat → Int32)) : Option ((Int32 × (Nat → Int64) × (Nat → Int64) × (Nat → Int32) × Int32 × (Nat → Int64) × Int32 × (Nat → Int32) × (Nat → Int32)) ⊕ (Int32 × (Nat → Int64) × (Nat → Int64) × (Nat → Int32) × Int32 × (Nat → Int64) × Int32 × (Nat → Int32) × (Nat → Int32))) :=
if s_5.1 < (3 : Int32) then (
Option.bind (if s_5.1 = 0 then (
Option.bind (gI v_this_st 1951 x_4) fun t_12 =>
Option.bind (gI v_this_st 1951 (x_4 + (1 : Int32))) fun t_13 =>
Option.bind (F_X12_wideOf s_5.2.1 v_this_st s_5.2.2.2.1 s_5.2.2.2.2.1 s_5.2.2.2.2.2.1 s_5.2.2.2.2.2.2.1 s_5.2.2.2.2.2.2.2.1 s_5.2.2.2.2.2.2.2.2 t_12 t_13 p0) fun c_14 =>
some (c_14.1.toInt64, c_14.2.1, c_14.2.2.1, c_14.2.2.2.1, c_14.2.2.2.2.1, c_14.2.2.2.2.2.1, c_14.2.2.2.2.2.2.1, c_14.2.2.2.2.2.2.2)) else (
Option.bind (gI v_this_st 1951 (x_4 + (1 : Int32))) fun t_8 =>
Option.bind (gI v_this_st 1951 (11 : Int32)) fun t_9 =>
Option.bind (gI v_this_st 1951 (11 : Int32)) fun t_10 =>
Option.bind (qL (t_8.toInt64 * ((t_9 - (1 : Int32)).toInt64)) t_10.toInt64) fun t_11 =>
some (t_11, s_5.2.1, s_5.2.2.2.1, s_5.2.2.2.2.1, s_5.2.2.2.2.2.1, s_5.2.2.2.2.2.2.1, s_5.2.2.2.2.2.2.2.1, s_5.2.2.2.2.2.2.2.2))) fun j_7 =>
Option.bind (itr (B_X12_findSilver_92 s_5 v_this_st j_7 x_4 s_1) FU ((0 : Int32), s_5.2.2.1)) fun x_16 =>
lt (s_5.1 + (1 : Int32)) fun x_23 =>
some (Sum.inl (x_23, j_7.2.1, x_16.2, j_7.2.2.1, j_7.2.2.2.1, j_7.2.2.2.2.1, j_7.2.2.2.2.2.1, j_7.2.2.2.2.2.2.1, j_7.2.2.2.2.2.2.2))) else (
some (Sum.inr (s_5.1, s_5.2.1, s_5.2.2.1, s_5.2.2.2.1, s_5.2.2.2.2.1, s_5.2.2.2.2.2.1, s_5.2.2.2.2.2.2.1, s_5.2.2.2.2.2.2.2.1, s_5.2.2.2.2.2.2.2.2)))
def B_X12_findSilver_2 (v_this_st : Nat → Int32) (p0 : Int32) (s_1 : Int32 × (Nat → Int64) × (Nat → Int64) × (Nat → Int32) × Int32 × (Nat → Int64) × Int32 × (Nat → Int32) × (Nat → Int32)) : Option ((Int32 × (Nat → Int64) × (Nat → Int64) × (Nat → Int32) × Int32 × (Nat → Int64) × Int32 × (Nat → Int32) × (Nat → Int32)) ⊕ (Int32 × (Nat → Int64) × (Nat → Int64) × (Nat → Int32) × Int32 × (Nat → Int64) × Int32 × (Nat → Int32) × (Nat → Int32))) :=
Option.bind (gI v_this_st 1951 (10 : Int32)) fun t_3 =>
if s_1.1 < t_3 then (
lt ((1933 : Int32) + ((3 : Int32) * s_1.1)) fun x_4 =>
Option.bind (itr (B_X12_findSilver_24 v_this_st x_4 p0 s_1) FU ((0 : Int32), s_1.2.1, s_1.2.2.1, s_1.2.2.2.1, s_1.2.2.2.2.1, s_1.2.2.2.2.2.1, s_1.2.2.2.2.2.2.1, s_1.2.2.2.2.2.2.2.1, s_1.2.2.2.2.2.2.2.2)) fun x_6 =>
lt (s_1.1 + (1 : Int32)) fun x_24 =>
some (Sum.inl (x_24, x_6.2.1, x_6.2.2.1, x_6.2.2.2.1, x_6.2.2.2.2.1, x_6.2.2.2.2.2.1, x_6.2.2.2.2.2.2.1, x_6.2.2.2.2.2.2.2.1, x_6.2.2.2.2.2.2.2.2))) else (
some (Sum.inr (s_1.1, s_1.2.1, s_1.2.2.1, s_1.2.2.2.1, s_1.2.2.2.2.1, s_1.2.2.2.2.2.1, s_1.2.2.2.2.2.2.1, s_1.2.2.2.2.2.2.2.1, s_1.2.2.2.2.2.2.2.2)))
def F_X12_findSilver (v_this_given : Nat → Int64) (v_this_silver : Nat → Int64) (v_this_st : Nat → Int32) (v_this_step : Nat → Int32) (v_this_steps : Int32) (v_this_value : Nat → Int64) (v_this_waiting : Int32) (v_this_waits : Nat → Int32) (v_this_with : Nat → Int32) (p0 : Int32) : Option ((Nat → Int64) × (Nat → Int64) × (Nat → Int32) × Int32 × (Nat → Int64) × Int32 × (Nat → Int32) × (Nat → Int32)) :=
Option.bind (itr (B_X12_findSilver_2 v_this_st p0) FU ((0 : Int32), v_this_given, v_this_silver, v_this_step, v_this_steps, v_this_value, v_this_waiting, v_this_waits, v_this_with)) fun x_2 =>
some (x_2.2.1, x_2.2.2.1, x_2.2.2.2.1, x_2.2.2.2.2.1, x_2.2.2.2.2.2.1, x_2.2.2.2.2.2.2.1, x_2.2.2.2.2.2.2.2.1, x_2.2.2.2.2.2.2.2.2)

def B_X12_plan_36 (v_this_st : Nat → Int32) (s_4 : Int32 × Int32) : Option ((Int32 × Int32) ⊕ (Int32 × Int32)) :=
Option.bind (gI v_this_st 1951 (10 : Int32)) fun t_6 =>
if s_4.2 < t_6 then (
lt (s_4.1 * (3 : Int32)) fun x_7 =>
lt (s_4.2 + (1 : Int32)) fun x_8 =>
some (Sum.inl (x_7, x_8))) else (
some (Sum.inr (s_4.1, s_4.2)))
def B_X12_plan_103 (c_3 : (Nat → Int64) × (Nat → Int64) × (Nat → Int32) × Int32 × (Nat → Int64) × Int32 × (Nat → Int32) × (Nat → Int32)) (s_11 : Int64 × Int32) (s_15 : Int64 × Int32 × Int32) : Option ((Int64 × Int32 × Int32) ⊕ (Int64 × Int32 × Int32)) :=
if s_15.2.2 < 0 then (
some (Sum.inr (s_15.1, s_15.2.1, s_15.2.2))) else (
Option.bind (mI s_15.2.1 (3 : Int32)) fun t_17 =>
Option.bind (gL c_3.2.1 54 ((((9 : Int32) * s_15.2.2) + ((3 : Int32) * t_17)) + s_11.2)) fun t_18 =>
lt (s_15.1 + t_18) fun x_19 =>
Option.bind (qI s_15.2.1 (3 : Int32)) fun t_20 =>
lt (s_15.2.2 + (-1 : Int32)) fun x_21 =>
some (Sum.inl (x_19, t_20, x_21)))
def B_X12_plan_79 (v_this_st : Nat → Int32) (c_3 : (Nat → Int64) × (Nat → Int64) × (Nat → Int32) × Int32 × (Nat → Int64) × Int32 × (Nat → Int32) × (Nat → Int32)) (s_9 : Int32 × Int64 × Int32) (s_11 : Int64 × Int32) : Option ((Int64 × Int32) ⊕ (Int64 × Int32)) :=
if s_11.2 < (3 : Int32) then (
Option.bind (gI v_this_st 1951 (10 : Int32)) fun t_13 =>
lt (t_13 - (1 : Int32)) fun x_14 =>
Option.bind (itr (B_X12_plan_103 c_3 s_11) FU ((0 : Int64), s_9.2.2, x_14)) fun x_16 =>
Option.bind (if s_11.2 = 0 then (
some x_16.1) else (
if x_16.1 < s_11.1 then (
some x_16.1) else (
some s_11.1))) fun j_22 =>
lt (s_11.2 + (1 : Int32)) fun x_23 =>
some (Sum.inl (j_22, x_23))) else (
some (Sum.inr (s_11.1, s_11.2)))
def B_X12_plan_67 (x_5 : Int32 × Int32) (v_this_st : Nat → Int32) (c_3 : (Nat → Int64) × (Nat → Int64) × (Nat → Int32) × Int32 × (Nat → Int64) × Int32 × (Nat → Int32) × (Nat → Int32)) (s_9 : Int32 × Int64 × Int32) : Option ((Int32 × Int64 × Int32) ⊕ (Int32 × Int64 × Int32)) :=
if s_9.2.2 < x_5.1 then (
Option.bind (itr (B_X12_plan_79 v_this_st c_3 s_9) FU ((0 : Int64), (0 : Int32))) fun x_12 =>
Option.bind (if s_9.2.2 = 0 then (
some (s_9.2.2, x_12.1)) else (
if s_9.2.1 < x_12.1 then (
some (s_9.2.2, x_12.1)) else (
some (s_9.1, s_9.2.1)))) fun j_24 =>
lt (s_9.2.2 + (1 : Int32)) fun x_25 =>
some (Sum.inl (j_24.1, j_24.2, x_25))) else (
some (Sum.inr (s_9.1, s_9.2.1, s_9.2.2)))
def B_X12_plan_215 (p1 : Int32) (s_28 : Int32 × Int32) : Option ((Int32 × Int32) ⊕ (Int32 × Int32)) :=
if p1 < s_28.2 then (
if p1 = (-1 : Int32) then (
some (Sum.inr (s_28.1, s_28.2))) else (
Option.bind (qI s_28.1 (3 : Int32)) fun t_30 =>
lt (s_28.2 + (-1 : Int32)) fun x_31 =>
some (Sum.inl (t_30, x_31)))) else (
some (Sum.inr (s_28.1, s_28.2)))
def J_X12_plan_1_26 (v_this_given : Nat → Int64) (v_this_silver : Nat → Int64) (v_this_st : Nat → Int32) (v_this_step : Nat → Int32) (v_this_steps : Int32) (v_this_value : Nat → Int64) (v_this_waiting : Int32) (v_this_waits : Nat → Int32) (v_this_with : Nat → Int32) (p0 : Int32) (p1 : Int32) (v_2 : Unit) : Option (Int64 × (Nat → Int64) × (Nat → Int64) × (Nat → Int32) × Int32 × (Nat → Int64) × Int32 × (Nat → Int32) × (Nat → Int32)) :=
Option.bind (F_X12_findSilver v_this_given v_this_silver v_this_st v_this_step v_this_steps v_this_value v_this_waiting v_this_waits v_this_with p0) fun c_3 =>
Option.bind (itr (B_X12_plan_36 v_this_st) FU ((1 : Int32), (0 : Int32))) fun x_5 =>
Option.bind (itr (B_X12_plan_67 x_5 v_this_st c_3) FU ((0 : Int32), (0 : Int64), (0 : Int32))) fun x_10 =>
Option.bind (gI v_this_st 1951 (10 : Int32)) fun t_26 =>
lt (t_26 - (1 : Int32)) fun x_27 =>
Option.bind (itr (B_X12_plan_215 p1) FU (x_10.1, x_27)) fun x_29 =>
Option.bind (if p1 = (-1 : Int32) then (
some x_10.2.1) else (
Option.bind (mI x_29.1 (3 : Int32)) fun t_33 =>
some t_33.toInt64)) fun j_32 =>
some (j_32, c_3.1, c_3.2.1, c_3.2.2.1, c_3.2.2.2.1, c_3.2.2.2.2.1, c_3.2.2.2.2.2.1, c_3.2.2.2.2.2.2.1, c_3.2.2.2.2.2.2.2)
def F_X12_plan (v_this_given : Nat → Int64) (v_this_silver : Nat → Int64) (v_this_st : Nat → Int32) (v_this_step : Nat → Int32) (v_this_steps : Int32) (v_this_value : Nat → Int64) (v_this_waiting : Int32) (v_this_waits : Nat → Int32) (v_this_with : Nat → Int32) (p0 : Int32) (p1 : Int32) : Option (Int64 × (Nat → Int64) × (Nat → Int64) × (Nat → Int32) × Int32 × (Nat → Int64) × Int32 × (Nat → Int32) × (Nat → Int32)) :=
Option.bind (F_X12_isSeason p0) fun c_1 =>
if c_1 = 0 then (
some ((-9000000000000000000 : Int64), v_this_given, v_this_silver, v_this_step, v_this_steps, v_this_value, v_this_waiting, v_this_waits, v_this_with)) else (
if p1 = (-1 : Int32) then (
J_X12_plan_1_26 v_this_given v_this_silver v_this_st v_this_step v_this_steps v_this_value v_this_waiting v_this_waits v_this_with p0 p1 ()) else (
Option.bind (F_X12_is v_this_st (10 : Int32) p1) fun c_34 =>
if c_34 = 0 then (
some ((-9000000000000000000 : Int64), v_this_given, v_this_silver, v_this_step, v_this_steps, v_this_value, v_this_waiting, v_this_waits, v_this_with)) else (
J_X12_plan_1_26 v_this_given v_this_silver v_this_st v_this_step v_this_steps v_this_value v_this_waiting v_this_waits v_this_with p0 p1 ())))

def F_X12_part (v_this_above : Int64) (v_this_below : Int64) (p0 : Int32) : Option (Int64) :=
Option.bind (if p0 = 0 then (
some v_this_above) else (
if p0 = (1 : Int32) then (
some v_this_below) else (
some (-1 : Int64)))) fun j_1 =>
some j_1

def B_X12_image_22 (v_this_st : Nat → Int32) (p0 : Int32) (s_3 : Int32 × (Nat → Int32)) : Option ((Int32 × (Nat → Int32)) ⊕ (Int32 × (Nat → Int32))) :=
if s_3.1 < (1951 : Int32) then (
Option.bind (gI v_this_st 1951 s_3.1) fun t_5 =>
Option.bind (sI s_3.2 3902 (((1951 : Int32) * p0) + s_3.1) t_5) fun g_6 =>
lt (s_3.1 + (1 : Int32)) fun x_7 =>
some (Sum.inl (x_7, g_6))) else (
some (Sum.inr (s_3.1, s_3.2)))
def F_X12_image (v_this_images : Nat → Int32) (v_this_isKept : Nat → Int32) (v_this_st : Nat → Int32) (p0 : Int32) : Option (Int32 × (Nat → Int32) × (Nat → Int32)) :=
Option.bind (F_X12_in p0.toInt64 (0 : Int64) (1 : Int64)) fun c_1 =>
if c_1 = 0 then (
some ((-2 : Int32), v_this_images, v_this_isKept)) else (
Option.bind (sZ v_this_isKept 2 p0 (1 : Int32)) fun g_2 =>
Option.bind (itr (B_X12_image_22 v_this_st p0) FU ((0 : Int32), v_this_images)) fun x_4 =>
some ((1 : Int32), x_4.2, g_2))

def B_X12_from_27 (v_this_images : Nat → Int32) (p0 : Int32) (s_3 : Int32 × (Nat → Int32)) : Option ((Int32 × (Nat → Int32)) ⊕ (Int32 × (Nat → Int32))) :=
if s_3.1 < (1951 : Int32) then (
Option.bind (gI v_this_images 3902 (((1951 : Int32) * p0) + s_3.1)) fun t_5 =>
Option.bind (sI s_3.2 1951 s_3.1 t_5) fun g_6 =>
lt (s_3.1 + (1 : Int32)) fun x_7 =>
some (Sum.inl (x_7, g_6))) else (
some (Sum.inr (s_3.1, s_3.2)))
def F_X12_from (v_this_images : Nat → Int32) (v_this_isKept : Nat → Int32) (v_this_st : Nat → Int32) (p0 : Int32) : Option (Int32 × (Nat → Int32)) :=
Option.bind (F_X12_in p0.toInt64 (0 : Int64) (1 : Int64)) fun c_1 =>
if c_1 = 0 then (
some ((-2 : Int32), v_this_st)) else (
Option.bind (gI v_this_isKept 2 p0) fun t_2 =>
if t_2 = 0 then (
some ((-3 : Int32), v_this_st)) else (
Option.bind (itr (B_X12_from_27 v_this_images p0) FU ((0 : Int32), v_this_st)) fun x_4 =>
some ((1 : Int32), x_4.2)))

def F_X12_count (v_this_st : Nat → Int32) (p0 : Int32) : Option (Int32) :=
Option.bind (F_X12_in p0.toInt64 (0 : Int64) (10 : Int64)) fun c_1 =>
Option.bind (if c_1 = 0 then (
some (-2 : Int32)) else (
Option.bind (gI v_this_st 1951 p0) fun t_3 =>
some t_3)) fun j_2 =>
some j_2

def B_X12_mixed_6 (p2 : Int32) (v_this_st : Nat → Int32) (p1 : Int32) (s_1 : Int64 × Int32) : Option ((Int64 × Int32) ⊕ (Int64 × Int32)) :=
if s_1.2 < p2 then (
Option.bind (gI v_this_st 1951 (p1 + s_1.2)) fun t_3 =>
lt (((31 : Int64) * s_1.1) + t_3.toInt64) fun x_4 =>
lt (s_1.2 + (1 : Int32)) fun x_5 =>
some (Sum.inl (x_4, x_5))) else (
some (Sum.inr (s_1.1, s_1.2)))
def F_X12_mixed (v_this_st : Nat → Int32) (p0 : Int64) (p1 : Int32) (p2 : Int32) : Option (Int64) :=
Option.bind (itr (B_X12_mixed_6 p2 v_this_st p1) FU (p0, (0 : Int32))) fun x_2 =>
some x_2.1

def B_X12_digest_29 (v_this_st : Nat → Int32) (s_4 : Int64 × Int32) : Option ((Int64 × Int32) ⊕ (Int64 × Int32)) :=
Option.bind (gI v_this_st 1951 (1 : Int32)) fun t_6 =>
if s_4.2 < t_6 then (
Option.bind (gI v_this_st 1951 (((244 : Int32) + ((53 : Int32) * s_4.2)) + (2 : Int32))) fun t_7 =>
Option.bind (F_X12_mixed v_this_st s_4.1 ((244 : Int32) + ((53 : Int32) * s_4.2)) ((3 : Int32) + t_7)) fun c_8 =>
lt (s_4.2 + (1 : Int32)) fun x_9 =>
some (Sum.inl (c_8, x_9))) else (
some (Sum.inr (s_4.1, s_4.2)))
def B_X12_digest_111 (v_this_st : Nat → Int32) (s_14 : Int64 × Int32) : Option ((Int64 × Int32) ⊕ (Int64 × Int32)) :=
Option.bind (gI v_this_st 1951 (4 : Int32)) fun t_16 =>
if s_14.2 < t_16 then (
Option.bind (gI v_this_st 1951 (0 : Int32)) fun t_17 =>
Option.bind (F_X12_mixed v_this_st s_14.1 ((1552 : Int32) + ((13 : Int32) * s_14.2)) ((3 : Int32) + t_17)) fun c_18 =>
lt (s_14.2 + (1 : Int32)) fun x_19 =>
some (Sum.inl (c_18, x_19))) else (
some (Sum.inr (s_14.1, s_14.2)))
def B_X12_digest_273 (v_this_st : Nat → Int32) (s_35 : Int64 × Int32) : Option ((Int64 × Int32) ⊕ (Int64 × Int32)) :=
if s_35.2 < (4 : Int32) then (
Option.bind (gI v_this_st 1951 ((40 : Int32) + ((51 : Int32) * s_35.2))) fun t_37 =>
Option.bind (F_X12_mixed v_this_st s_35.1 ((40 : Int32) + ((51 : Int32) * s_35.2)) ((1 : Int32) + t_37)) fun c_38 =>
lt (s_35.2 + (1 : Int32)) fun x_39 =>
some (Sum.inl (c_38, x_39))) else (
some (Sum.inr (s_35.1, s_35.2)))
def B_X12_digest_313 (v_this_st : Nat → Int32) (s_40 : Int64 × Int32 × (Nat → Int64) × (Nat → Int32) × Int32 × (Nat → Int64) × Int32 × (Nat → Int32) × (Nat → Int32)) : Option ((Int64 × Int32 × (Nat → Int64) × (Nat → Int32) × Int32 × (Nat → Int64) × Int32 × (Nat → Int32) × (Nat → Int32)) ⊕ (Int64 × Int32 × (Nat → Int64) × (Nat → Int32) × Int32 × (Nat → Int64) × Int32 × (Nat → Int32) × (Nat → Int32))) :=
Option.bind (gI v_this_st 1951 (0 : Int32)) fun t_42 =>
if s_40.2.1 < t_42 then (
Option.bind (F_X12_balanceOf s_40.2.2.1 v_this_st s_40.2.2.2.1 s_40.2.2.2.2.1 s_40.2.2.2.2.2.1 s_40.2.2.2.2.2.2.1 s_40.2.2.2.2.2.2.2.1 s_40.2.2.2.2.2.2.2.2 s_40.2.1 (99 : Int32)) fun c_43 =>
lt (((31 : Int64) * s_40.1) + c_43.1) fun x_44 =>
lt (s_40.2.1 + (1 : Int32)) fun x_45 =>
some (Sum.inl (x_44, x_45, c_43.2.1, c_43.2.2.1, c_43.2.2.2.1, c_43.2.2.2.2.1, c_43.2.2.2.2.2.1, c_43.2.2.2.2.2.2.1, c_43.2.2.2.2.2.2.2))) else (
some (Sum.inr (s_40.1, s_40.2.1, s_40.2.2.1, s_40.2.2.2.1, s_40.2.2.2.2.1, s_40.2.2.2.2.2.1, s_40.2.2.2.2.2.2.1, s_40.2.2.2.2.2.2.2.1, s_40.2.2.2.2.2.2.2.2)))
def F_X12_digest (v_this_above : Int64) (v_this_below : Int64) (v_this_given : Nat → Int64) (v_this_st : Nat → Int32) (v_this_step : Nat → Int32) (v_this_steps : Int32) (v_this_value : Nat → Int64) (v_this_waiting : Int32) (v_this_waits : Nat → Int32) (v_this_with : Nat → Int32) : Option (Int64 × (Nat → Int64) × (Nat → Int32) × Int32 × (Nat → Int64) × Int32 × (Nat → Int32) × (Nat → Int32)) :=
Option.bind (F_X12_mixed v_this_st (379 : Int64) (0 : Int32) (11 : Int32)) fun c_1 =>
Option.bind (gI v_this_st 1951 (0 : Int32)) fun t_2 =>
Option.bind (F_X12_mixed v_this_st c_1 (20 : Int32) ((2 : Int32) * t_2)) fun c_3 =>
Option.bind (itr (B_X12_digest_29 v_this_st) FU (c_3, (0 : Int32))) fun x_5 =>
Option.bind (gI v_this_st 1951 (2 : Int32)) fun t_10 =>
Option.bind (F_X12_mixed v_this_st x_5.1 (1092 : Int32) ((7 : Int32) * t_10)) fun c_11 =>
Option.bind (gI v_this_st 1951 (3 : Int32)) fun t_12 =>
Option.bind (F_X12_mixed v_this_st c_11 (1372 : Int32) ((3 : Int32) * t_12)) fun c_13 =>
Option.bind (itr (B_X12_digest_111 v_this_st) FU (c_13, (0 : Int32))) fun x_15 =>
Option.bind (gI v_this_st 1951 (5 : Int32)) fun t_20 =>
Option.bind (F_X12_mixed v_this_st x_15.1 (1591 : Int32) t_20) fun c_21 =>
Option.bind (F_X12_mixed v_this_st c_21 (11 : Int32) (1 : Int32)) fun c_22 =>
Option.bind (gI v_this_st 1951 (6 : Int32)) fun t_23 =>
Option.bind (F_X12_mixed v_this_st c_22 (1597 : Int32) ((3 : Int32) * t_23)) fun c_24 =>
Option.bind (F_X12_mixed v_this_st c_24 (12 : Int32) (1 : Int32)) fun c_25 =>
Option.bind (gI v_this_st 1951 (7 : Int32)) fun t_26 =>
Option.bind (F_X12_mixed v_this_st c_25 (1633 : Int32) ((3 : Int32) * t_26)) fun c_27 =>
Option.bind (gI v_this_st 1951 (8 : Int32)) fun t_28 =>
Option.bind (F_X12_mixed v_this_st c_27 (1753 : Int32) ((5 : Int32) * t_28)) fun c_29 =>
Option.bind (gI v_this_st 1951 (9 : Int32)) fun t_30 =>
Option.bind (F_X12_mixed v_this_st c_29 (1903 : Int32) ((3 : Int32) * t_30)) fun c_31 =>
Option.bind (gI v_this_st 1951 (10 : Int32)) fun t_32 =>
Option.bind (F_X12_mixed v_this_st c_31 (1933 : Int32) ((3 : Int32) * t_32)) fun c_33 =>
Option.bind (F_X12_mixed v_this_st c_33 (13 : Int32) (3 : Int32)) fun c_34 =>
Option.bind (itr (B_X12_digest_273 v_this_st) FU (c_34, (0 : Int32))) fun x_36 =>
Option.bind (itr (B_X12_digest_313 v_this_st) FU (x_36.1, (0 : Int32), v_this_given, v_this_step, v_this_steps, v_this_value, v_this_waiting, v_this_waits, v_this_with)) fun x_41 =>
some (((31 : Int64) * (((31 : Int64) * x_41.1) + v_this_above)) + v_this_below, x_41.2.2.1, x_41.2.2.2.1, x_41.2.2.2.2.1, x_41.2.2.2.2.2.1, x_41.2.2.2.2.2.2.1, x_41.2.2.2.2.2.2.2.1, x_41.2.2.2.2.2.2.2.2)
