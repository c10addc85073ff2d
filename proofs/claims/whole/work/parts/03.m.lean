def lwG : List Cond := lw_tbl.filter goodWord
theorem lwG_of {w : Cond} (h : w ∈ lw_tbl) (g : goodWord w = true) : w ∈ lwG := List.mem_filter.mpr ⟨h, g⟩
theorem mt_1 {w : Cond} (h : w ∈ tables_1_1) : w ∈ lw_tbl := by
  show w ∈ k2_sels lw_privs ++ (tables_1_1 ++ (tables_1_2 ++ (tables_1_3 ++ (tables_1_4 ++ (tables_1_5 ++ (tables_1_6 ++ tables_1_7))))))
  exact List.mem_append_right _ (List.mem_append_left _ h)
theorem mt_2 {w : Cond} (h : w ∈ tables_1_2) : w ∈ lw_tbl := by
  show w ∈ k2_sels lw_privs ++ (tables_1_1 ++ (tables_1_2 ++ (tables_1_3 ++ (tables_1_4 ++ (tables_1_5 ++ (tables_1_6 ++ tables_1_7))))))
  exact List.mem_append_right _ (List.mem_append_right _ (List.mem_append_left _ h))
theorem mt_3 {w : Cond} (h : w ∈ tables_1_3) : w ∈ lw_tbl := by
  show w ∈ k2_sels lw_privs ++ (tables_1_1 ++ (tables_1_2 ++ (tables_1_3 ++ (tables_1_4 ++ (tables_1_5 ++ (tables_1_6 ++ tables_1_7))))))
  exact List.mem_append_right _ (List.mem_append_right _ (List.mem_append_right _ (List.mem_append_left _ h)))
theorem mt_4 {w : Cond} (h : w ∈ tables_1_4) : w ∈ lw_tbl := by
  show w ∈ k2_sels lw_privs ++ (tables_1_1 ++ (tables_1_2 ++ (tables_1_3 ++ (tables_1_4 ++ (tables_1_5 ++ (tables_1_6 ++ tables_1_7))))))
  exact List.mem_append_right _ (List.mem_append_right _ (List.mem_append_right _ (List.mem_append_right _ (List.mem_append_left _ h))))
theorem mt_5 {w : Cond} (h : w ∈ tables_1_5) : w ∈ lw_tbl := by
  show w ∈ k2_sels lw_privs ++ (tables_1_1 ++ (tables_1_2 ++ (tables_1_3 ++ (tables_1_4 ++ (tables_1_5 ++ (tables_1_6 ++ tables_1_7))))))
  exact List.mem_append_right _ (List.mem_append_right _ (List.mem_append_right _ (List.mem_append_right _ (List.mem_append_right _ (List.mem_append_left _ h)))))
theorem mt_6 {w : Cond} (h : w ∈ tables_1_6) : w ∈ lw_tbl := by
  show w ∈ k2_sels lw_privs ++ (tables_1_1 ++ (tables_1_2 ++ (tables_1_3 ++ (tables_1_4 ++ (tables_1_5 ++ (tables_1_6 ++ tables_1_7))))))
  exact List.mem_append_right _ (List.mem_append_right _ (List.mem_append_right _ (List.mem_append_right _ (List.mem_append_right _ (List.mem_append_right _ (List.mem_append_left _ h))))))
theorem mt_7 {w : Cond} (h : w ∈ tables_1_7) : w ∈ lw_tbl := by
  show w ∈ k2_sels lw_privs ++ (tables_1_1 ++ (tables_1_2 ++ (tables_1_3 ++ (tables_1_4 ++ (tables_1_5 ++ (tables_1_6 ++ tables_1_7))))))
  exact List.mem_append_right _ (List.mem_append_right _ (List.mem_append_right _ (List.mem_append_right _ (List.mem_append_right _ (List.mem_append_right _ (List.mem_append_right _ (h)))))))
theorem mt_0 {w : Cond} (h : w ∈ k2_sels lw_privs) : w ∈ lw_tbl := List.mem_append_left _ h
theorem goodG {a : Cond} {ws : List Cond} (h : ∀ w ∈ ws, w ∈ lwG) : GoodIn (a :: lwG) ws := fun w hw => ⟨List.mem_cons_of_mem _ (h w hw), good_of_word (List.mem_filter.mp (h w hw)).2⟩
theorem goodGL {ws : List Cond} (h : ∀ w ∈ ws, w ∈ lwG) : GoodIn lwG ws := fun w hw => ⟨h w hw, good_of_word (List.mem_filter.mp (h w hw)).2⟩
theorem w_1_130 : Cond.laysFinal RX0 "TinHouse$House" "merchants" "LTinHouse$Table;" ∈ lwG := lwG_of (mt_1 (List.mem_of_getElem? (i := 130) (by decide +kernel))) rfl
theorem w_1_132 : Cond.laysFinal RX0 "TinHouse$House" "texts" "LTinHouse$Table;" ∈ lwG := lwG_of (mt_1 (List.mem_of_getElem? (i := 132) (by decide +kernel))) rfl
theorem w_1_134 : Cond.laysFinal RX0 "TinHouse$House" "acts" "LTinHouse$Table;" ∈ lwG := lwG_of (mt_1 (List.mem_of_getElem? (i := 134) (by decide +kernel))) rfl
theorem w_1_136 : Cond.laysFinal RX0 "TinHouse$House" "debts" "LTinHouse$Table;" ∈ lwG := lwG_of (mt_1 (List.mem_of_getElem? (i := 136) (by decide +kernel))) rfl
theorem w_1_138 : Cond.laysFinal RX0 "TinHouse$House" "payments" "LTinHouse$Table;" ∈ lwG := lwG_of (mt_1 (List.mem_of_getElem? (i := 138) (by decide +kernel))) rfl
theorem w_1_140 : Cond.laysFinal RX0 "TinHouse$House" "purses" "LTinHouse$Table;" ∈ lwG := lwG_of (mt_1 (List.mem_of_getElem? (i := 140) (by decide +kernel))) rfl
theorem w_1_142 : Cond.laysFinal RX0 "TinHouse$House" "gates" "LTinHouse$Table;" ∈ lwG := lwG_of (mt_1 (List.mem_of_getElem? (i := 142) (by decide +kernel))) rfl
theorem w_1_144 : Cond.laysFinal RX0 "TinHouse$House" "stones" "LTinHouse$Table;" ∈ lwG := lwG_of (mt_1 (List.mem_of_getElem? (i := 144) (by decide +kernel))) rfl
theorem w_1_146 : Cond.laysFinal RX0 "TinHouse$House" "told" "LTinHouse$Table;" ∈ lwG := lwG_of (mt_1 (List.mem_of_getElem? (i := 146) (by decide +kernel))) rfl
theorem w_1_148 : Cond.laysFinal RX0 "TinHouse$House" "letters" "LTinHouse$Table;" ∈ lwG := lwG_of (mt_1 (List.mem_of_getElem? (i := 148) (by decide +kernel))) rfl
theorem w_1_150 : Cond.laysFinal RX0 "TinHouse$House" "mentions" "LTinHouse$Table;" ∈ lwG := lwG_of (mt_1 (List.mem_of_getElem? (i := 150) (by decide +kernel))) rfl
theorem w_1_152 : Cond.laysFinal RX0 "TinHouse$House" "loads" "LTinHouse$Table;" ∈ lwG := lwG_of (mt_1 (List.mem_of_getElem? (i := 152) (by decide +kernel))) rfl
theorem w_1_154 : Cond.laysFinal RX0 "TinHouse$House" "prices" "LTinHouse$Table;" ∈ lwG := lwG_of (mt_1 (List.mem_of_getElem? (i := 154) (by decide +kernel))) rfl
theorem w_1_156 : Cond.lays RX0 "TinHouse$House" "narrow" "I" ∈ lwG := lwG_of (mt_1 (List.mem_of_getElem? (i := 156) (by decide +kernel))) rfl
theorem w_1_158 : Cond.lays RX0 "TinHouse$House" "names" "I" ∈ lwG := lwG_of (mt_1 (List.mem_of_getElem? (i := 158) (by decide +kernel))) rfl
theorem inX0 : ∀ w ∈ u_ws RX0 TX0 15, w ∈ lwG := by
  have e : u_ws RX0 TX0 15 = [Cond.laysFinal RX0 "TinHouse$House" "merchants" "LTinHouse$Table;", Cond.laysFinal RX0 "TinHouse$House" "texts" "LTinHouse$Table;", Cond.laysFinal RX0 "TinHouse$House" "acts" "LTinHouse$Table;", Cond.laysFinal RX0 "TinHouse$House" "debts" "LTinHouse$Table;", Cond.laysFinal RX0 "TinHouse$House" "payments" "LTinHouse$Table;", Cond.laysFinal RX0 "TinHouse$House" "purses" "LTinHouse$Table;", Cond.laysFinal RX0 "TinHouse$House" "gates" "LTinHouse$Table;", Cond.laysFinal RX0 "TinHouse$House" "stones" "LTinHouse$Table;", Cond.laysFinal RX0 "TinHouse$House" "told" "LTinHouse$Table;", Cond.laysFinal RX0 "TinHouse$House" "letters" "LTinHouse$Table;", Cond.laysFinal RX0 "TinHouse$House" "mentions" "LTinHouse$Table;", Cond.laysFinal RX0 "TinHouse$House" "loads" "LTinHouse$Table;", Cond.laysFinal RX0 "TinHouse$House" "prices" "LTinHouse$Table;", Cond.lays RX0 "TinHouse$House" "narrow" "I", Cond.lays RX0 "TinHouse$House" "names" "I"] := by decide +kernel
  rw [e]
  exact List.forall_mem_cons.mpr ⟨w_1_130, List.forall_mem_cons.mpr ⟨w_1_132, List.forall_mem_cons.mpr ⟨w_1_134, List.forall_mem_cons.mpr ⟨w_1_136, List.forall_mem_cons.mpr ⟨w_1_138, List.forall_mem_cons.mpr ⟨w_1_140, List.forall_mem_cons.mpr ⟨w_1_142, List.forall_mem_cons.mpr ⟨w_1_144, List.forall_mem_cons.mpr ⟨w_1_146, List.forall_mem_cons.mpr ⟨w_1_148, List.forall_mem_cons.mpr ⟨w_1_150, List.forall_mem_cons.mpr ⟨w_1_152, List.forall_mem_cons.mpr ⟨w_1_154, List.forall_mem_cons.mpr ⟨w_1_156, List.forall_mem_cons.mpr ⟨w_1_158, fun _ h => absurd h List.not_mem_nil⟩⟩⟩⟩⟩⟩⟩⟩⟩⟩⟩⟩⟩⟩⟩
theorem izX0 {a : Cond} : ∀ w ∈ u_ws RX0 TX0 15, w ∈ a :: lwG := fun w h => List.mem_cons_of_mem _ (inX0 w h)
theorem w_1_217 : Cond.laysFinal RX1 "TinHouse$Law" "house" "LTinHouse$House;" ∈ lwG := lwG_of (mt_1 (List.mem_of_getElem? (i := 217) (by decide +kernel))) rfl
theorem w_1_219 : Cond.laysFinal RX1 "TinHouse$Law" "stack" "[J" ∈ lwG := lwG_of (mt_1 (List.mem_of_getElem? (i := 219) (by decide +kernel))) rfl
theorem w_1_221 : Cond.lays RX1 "TinHouse$Law" "height" "I" ∈ lwG := lwG_of (mt_1 (List.mem_of_getElem? (i := 221) (by decide +kernel))) rfl
theorem w_1_223 : Cond.lays RX1 "TinHouse$Law" "gate" "I" ∈ lwG := lwG_of (mt_1 (List.mem_of_getElem? (i := 223) (by decide +kernel))) rfl
theorem w_1_225 : Cond.lays RX1 "TinHouse$Law" "kin" "I" ∈ lwG := lwG_of (mt_1 (List.mem_of_getElem? (i := 225) (by decide +kernel))) rfl
theorem w_1_227 : Cond.lays RX1 "TinHouse$Law" "town" "I" ∈ lwG := lwG_of (mt_1 (List.mem_of_getElem? (i := 227) (by decide +kernel))) rfl
theorem w_1_229 : Cond.lays RX1 "TinHouse$Law" "season" "I" ∈ lwG := lwG_of (mt_1 (List.mem_of_getElem? (i := 229) (by decide +kernel))) rfl
theorem w_1_231 : Cond.lays RX1 "TinHouse$Law" "about" "J" ∈ lwG := lwG_of (mt_1 (List.mem_of_getElem? (i := 231) (by decide +kernel))) rfl
theorem inX1 : ∀ w ∈ u_ws RX1 TX1 8, w ∈ lwG := by
  have e : u_ws RX1 TX1 8 = [Cond.laysFinal RX1 "TinHouse$Law" "house" "LTinHouse$House;", Cond.laysFinal RX1 "TinHouse$Law" "stack" "[J", Cond.lays RX1 "TinHouse$Law" "height" "I", Cond.lays RX1 "TinHouse$Law" "gate" "I", Cond.lays RX1 "TinHouse$Law" "kin" "I", Cond.lays RX1 "TinHouse$Law" "town" "I", Cond.lays RX1 "TinHouse$Law" "season" "I", Cond.lays RX1 "TinHouse$Law" "about" "J"] := by decide +kernel
  rw [e]
  exact List.forall_mem_cons.mpr ⟨w_1_217, List.forall_mem_cons.mpr ⟨w_1_219, List.forall_mem_cons.mpr ⟨w_1_221, List.forall_mem_cons.mpr ⟨w_1_223, List.forall_mem_cons.mpr ⟨w_1_225, List.forall_mem_cons.mpr ⟨w_1_227, List.forall_mem_cons.mpr ⟨w_1_229, List.forall_mem_cons.mpr ⟨w_1_231, fun _ h => absurd h List.not_mem_nil⟩⟩⟩⟩⟩⟩⟩⟩
theorem izX1 {a : Cond} : ∀ w ∈ u_ws RX1 TX1 8, w ∈ a :: lwG := fun w h => List.mem_cons_of_mem _ (inX1 w h)
theorem w_2_4 : Cond.laysFinal RX2 "TinHouse$Ledge\x72" "house" "LTinHouse$House;" ∈ lwG := lwG_of (mt_2 (List.mem_of_getElem? (i := 4) (by decide +kernel))) rfl
theorem w_2_6 : Cond.laysFinal RX2 "TinHouse$Ledge\x72" "law" "LTinHouse$Law;" ∈ lwG := lwG_of (mt_2 (List.mem_of_getElem? (i := 6) (by decide +kernel))) rfl
theorem w_2_8 : Cond.laysFinal RX2 "TinHouse$Ledge\x72" "paid" "[J" ∈ lwG := lwG_of (mt_2 (List.mem_of_getElem? (i := 8) (by decide +kernel))) rfl
theorem inX2 : ∀ w ∈ u_ws RX2 TX2 3, w ∈ lwG := by
  have e : u_ws RX2 TX2 3 = [Cond.laysFinal RX2 "TinHouse$Ledge\x72" "house" "LTinHouse$House;", Cond.laysFinal RX2 "TinHouse$Ledge\x72" "law" "LTinHouse$Law;", Cond.laysFinal RX2 "TinHouse$Ledge\x72" "paid" "[J"] := by decide +kernel
  rw [e]
  exact List.forall_mem_cons.mpr ⟨w_2_4, List.forall_mem_cons.mpr ⟨w_2_6, List.forall_mem_cons.mpr ⟨w_2_8, fun _ h => absurd h List.not_mem_nil⟩⟩⟩
theorem izX2 {a : Cond} : ∀ w ∈ u_ws RX2 TX2 3, w ∈ a :: lwG := fun w h => List.mem_cons_of_mem _ (inX2 w h)
theorem w_2_100 : Cond.laysFinal RX3 "TinHouse$Men" "house" "LTinHouse$House;" ∈ lwG := lwG_of (mt_2 (List.mem_of_getElem? (i := 100) (by decide +kernel))) rfl
theorem w_2_102 : Cond.laysFinal RX3 "TinHouse$Men" "alike" "[I" ∈ lwG := lwG_of (mt_2 (List.mem_of_getElem? (i := 102) (by decide +kernel))) rfl
theorem w_2_104 : Cond.laysFinal RX3 "TinHouse$Men" "members" "[I" ∈ lwG := lwG_of (mt_2 (List.mem_of_getElem? (i := 104) (by decide +kernel))) rfl
theorem w_2_106 : Cond.laysFinal RX3 "TinHouse$Men" "least" "[I" ∈ lwG := lwG_of (mt_2 (List.mem_of_getElem? (i := 106) (by decide +kernel))) rfl
theorem inX3 : ∀ w ∈ u_ws RX3 TX3 4, w ∈ lwG := by
  have e : u_ws RX3 TX3 4 = [Cond.laysFinal RX3 "TinHouse$Men" "house" "LTinHouse$House;", Cond.laysFinal RX3 "TinHouse$Men" "alike" "[I", Cond.laysFinal RX3 "TinHouse$Men" "members" "[I", Cond.laysFinal RX3 "TinHouse$Men" "least" "[I"] := by decide +kernel
  rw [e]
  exact List.forall_mem_cons.mpr ⟨w_2_100, List.forall_mem_cons.mpr ⟨w_2_102, List.forall_mem_cons.mpr ⟨w_2_104, List.forall_mem_cons.mpr ⟨w_2_106, fun _ h => absurd h List.not_mem_nil⟩⟩⟩⟩
theorem izX3 {a : Cond} : ∀ w ∈ u_ws RX3 TX3 4, w ∈ a :: lwG := fun w h => List.mem_cons_of_mem _ (inX3 w h)
theorem w_2_26 : Cond.laysFinal RX4 "TinHouse$Nets" "house" "LTinHouse$House;" ∈ lwG := lwG_of (mt_2 (List.mem_of_getElem? (i := 26) (by decide +kernel))) rfl
theorem w_2_28 : Cond.laysFinal RX4 "TinHouse$Nets" "ledge\x72" "LTinHouse$Ledger;" ∈ lwG := lwG_of (mt_2 (List.mem_of_getElem? (i := 28) (by decide +kernel))) rfl
theorem w_2_30 : Cond.laysFinal RX4 "TinHouse$Nets" "balances" "[J" ∈ lwG := lwG_of (mt_2 (List.mem_of_getElem? (i := 30) (by decide +kernel))) rfl
theorem w_2_32 : Cond.laysFinal RX4 "TinHouse$Nets" "pairs" "[J" ∈ lwG := lwG_of (mt_2 (List.mem_of_getElem? (i := 32) (by decide +kernel))) rfl
theorem w_2_34 : Cond.laysFinal RX4 "TinHouse$Nets" "uneven" "[J" ∈ lwG := lwG_of (mt_2 (List.mem_of_getElem? (i := 34) (by decide +kernel))) rfl
theorem w_2_36 : Cond.laysFinal RX4 "TinHouse$Nets" "sums" "[J" ∈ lwG := lwG_of (mt_2 (List.mem_of_getElem? (i := 36) (by decide +kernel))) rfl
theorem w_2_38 : Cond.laysFinal RX4 "TinHouse$Nets" "sets" "[I" ∈ lwG := lwG_of (mt_2 (List.mem_of_getElem? (i := 38) (by decide +kernel))) rfl
theorem w_2_40 : Cond.laysFinal RX4 "TinHouse$Nets" "steps" "[I" ∈ lwG := lwG_of (mt_2 (List.mem_of_getElem? (i := 40) (by decide +kernel))) rfl
theorem w_2_42 : Cond.laysFinal RX4 "TinHouse$Nets" "ring" "[I" ∈ lwG := lwG_of (mt_2 (List.mem_of_getElem? (i := 42) (by decide +kernel))) rfl
theorem inX4 : ∀ w ∈ u_ws RX4 TX4 9, w ∈ lwG := by
  have e : u_ws RX4 TX4 9 = [Cond.laysFinal RX4 "TinHouse$Nets" "house" "LTinHouse$House;", Cond.laysFinal RX4 "TinHouse$Nets" "ledge\x72" "LTinHouse$Ledger;", Cond.laysFinal RX4 "TinHouse$Nets" "balances" "[J", Cond.laysFinal RX4 "TinHouse$Nets" "pairs" "[J", Cond.laysFinal RX4 "TinHouse$Nets" "uneven" "[J", Cond.laysFinal RX4 "TinHouse$Nets" "sums" "[J", Cond.laysFinal RX4 "TinHouse$Nets" "sets" "[I", Cond.laysFinal RX4 "TinHouse$Nets" "steps" "[I", Cond.laysFinal RX4 "TinHouse$Nets" "ring" "[I"] := by decide +kernel
  rw [e]
  exact List.forall_mem_cons.mpr ⟨w_2_26, List.forall_mem_cons.mpr ⟨w_2_28, List.forall_mem_cons.mpr ⟨w_2_30, List.forall_mem_cons.mpr ⟨w_2_32, List.forall_mem_cons.mpr ⟨w_2_34, List.forall_mem_cons.mpr ⟨w_2_36, List.forall_mem_cons.mpr ⟨w_2_38, List.forall_mem_cons.mpr ⟨w_2_40, List.forall_mem_cons.mpr ⟨w_2_42, fun _ h => absurd h List.not_mem_nil⟩⟩⟩⟩⟩⟩⟩⟩⟩
theorem izX4 {a : Cond} : ∀ w ∈ u_ws RX4 TX4 9, w ∈ a :: lwG := fun w h => List.mem_cons_of_mem _ (inX4 w h)
theorem w_2_122 : Cond.lays RX5 "TinHouse$Planne\x72" "best" "J" ∈ lwG := lwG_of (mt_2 (List.mem_of_getElem? (i := 122) (by decide +kernel))) rfl
theorem w_2_124 : Cond.lays RX5 "TinHouse$Planne\x72" "bestPlan" "I" ∈ lwG := lwG_of (mt_2 (List.mem_of_getElem? (i := 124) (by decide +kernel))) rfl
theorem w_2_126 : Cond.laysFinal RX5 "TinHouse$Planne\x72" "house" "LTinHouse$House;" ∈ lwG := lwG_of (mt_2 (List.mem_of_getElem? (i := 126) (by decide +kernel))) rfl
theorem w_2_128 : Cond.laysFinal RX5 "TinHouse$Planne\x72" "ways" "LTinHouse$Ways;" ∈ lwG := lwG_of (mt_2 (List.mem_of_getElem? (i := 128) (by decide +kernel))) rfl
theorem w_2_130 : Cond.laysFinal RX5 "TinHouse$Planne\x72" "silve\x72" "[J" ∈ lwG := lwG_of (mt_2 (List.mem_of_getElem? (i := 130) (by decide +kernel))) rfl
theorem inX5 : ∀ w ∈ u_ws RX5 TX5 5, w ∈ lwG := by
  have e : u_ws RX5 TX5 5 = [Cond.lays RX5 "TinHouse$Planne\x72" "best" "J", Cond.lays RX5 "TinHouse$Planne\x72" "bestPlan" "I", Cond.laysFinal RX5 "TinHouse$Planne\x72" "house" "LTinHouse$House;", Cond.laysFinal RX5 "TinHouse$Planne\x72" "ways" "LTinHouse$Ways;", Cond.laysFinal RX5 "TinHouse$Planne\x72" "silve\x72" "[J"] := by decide +kernel
  rw [e]
  exact List.forall_mem_cons.mpr ⟨w_2_122, List.forall_mem_cons.mpr ⟨w_2_124, List.forall_mem_cons.mpr ⟨w_2_126, List.forall_mem_cons.mpr ⟨w_2_128, List.forall_mem_cons.mpr ⟨w_2_130, fun _ h => absurd h List.not_mem_nil⟩⟩⟩⟩⟩
theorem izX5 {a : Cond} : ∀ w ∈ u_ws RX5 TX5 5, w ∈ a :: lwG := fun w h => List.mem_cons_of_mem _ (inX5 w h)
theorem w_2_85 : Cond.laysFinal RX6 "TinHouse$Post" "house" "LTinHouse$House;" ∈ lwG := lwG_of (mt_2 (List.mem_of_getElem? (i := 85) (by decide +kernel))) rfl
theorem w_2_87 : Cond.laysFinal RX6 "TinHouse$Post" "carried" "[I" ∈ lwG := lwG_of (mt_2 (List.mem_of_getElem? (i := 87) (by decide +kernel))) rfl
theorem inX6 : ∀ w ∈ u_ws RX6 TX6 2, w ∈ lwG := by
  have e : u_ws RX6 TX6 2 = [Cond.laysFinal RX6 "TinHouse$Post" "house" "LTinHouse$House;", Cond.laysFinal RX6 "TinHouse$Post" "carried" "[I"] := by decide +kernel
  rw [e]
  exact List.forall_mem_cons.mpr ⟨w_2_85, List.forall_mem_cons.mpr ⟨w_2_87, fun _ h => absurd h List.not_mem_nil⟩⟩
theorem izX6 {a : Cond} : ∀ w ∈ u_ws RX6 TX6 2, w ∈ a :: lwG := fun w h => List.mem_cons_of_mem _ (inX6 w h)
theorem w_1_182 : Cond.laysFinal RX7 "TinHouse$Reade\x72" "codes" "[I" ∈ lwG := lwG_of (mt_1 (List.mem_of_getElem? (i := 182) (by decide +kernel))) rfl
theorem w_1_184 : Cond.lays RX7 "TinHouse$Reade\x72" "count" "I" ∈ lwG := lwG_of (mt_1 (List.mem_of_getElem? (i := 184) (by decide +kernel))) rfl
theorem w_1_186 : Cond.laysFinal RX7 "TinHouse$Reade\x72" "waiting" "[I" ∈ lwG := lwG_of (mt_1 (List.mem_of_getElem? (i := 186) (by decide +kernel))) rfl
theorem w_1_188 : Cond.lays RX7 "TinHouse$Reade\x72" "waits" "I" ∈ lwG := lwG_of (mt_1 (List.mem_of_getElem? (i := 188) (by decide +kernel))) rfl
theorem w_1_190 : Cond.lays RX7 "TinHouse$Reade\x72" "open" "I" ∈ lwG := lwG_of (mt_1 (List.mem_of_getElem? (i := 190) (by decide +kernel))) rfl
theorem w_1_192 : Cond.lays RX7 "TinHouse$Reade\x72" "unitIsDue" "Z" ∈ lwG := lwG_of (mt_1 (List.mem_of_getElem? (i := 192) (by decide +kernel))) rfl
theorem w_1_194 : Cond.lays RX7 "TinHouse$Reade\x72" "digits" "I" ∈ lwG := lwG_of (mt_1 (List.mem_of_getElem? (i := 194) (by decide +kernel))) rfl
theorem w_1_196 : Cond.lays RX7 "TinHouse$Reade\x72" "firstDigit" "I" ∈ lwG := lwG_of (mt_1 (List.mem_of_getElem? (i := 196) (by decide +kernel))) rfl
theorem w_1_198 : Cond.lays RX7 "TinHouse$Reade\x72" "numbe\x72" "I" ∈ lwG := lwG_of (mt_1 (List.mem_of_getElem? (i := 198) (by decide +kernel))) rfl
theorem w_1_200 : Cond.lays RX7 "TinHouse$Reade\x72" "fault" "I" ∈ lwG := lwG_of (mt_1 (List.mem_of_getElem? (i := 200) (by decide +kernel))) rfl
theorem inX7 : ∀ w ∈ u_ws RX7 TX7 10, w ∈ lwG := by
  have e : u_ws RX7 TX7 10 = [Cond.laysFinal RX7 "TinHouse$Reade\x72" "codes" "[I", Cond.lays RX7 "TinHouse$Reade\x72" "count" "I", Cond.laysFinal RX7 "TinHouse$Reade\x72" "waiting" "[I", Cond.lays RX7 "TinHouse$Reade\x72" "waits" "I", Cond.lays RX7 "TinHouse$Reade\x72" "open" "I", Cond.lays RX7 "TinHouse$Reade\x72" "unitIsDue" "Z", Cond.lays RX7 "TinHouse$Reade\x72" "digits" "I", Cond.lays RX7 "TinHouse$Reade\x72" "firstDigit" "I", Cond.lays RX7 "TinHouse$Reade\x72" "numbe\x72" "I", Cond.lays RX7 "TinHouse$Reade\x72" "fault" "I"] := by decide +kernel
  rw [e]
  exact List.forall_mem_cons.mpr ⟨w_1_182, List.forall_mem_cons.mpr ⟨w_1_184, List.forall_mem_cons.mpr ⟨w_1_186, List.forall_mem_cons.mpr ⟨w_1_188, List.forall_mem_cons.mpr ⟨w_1_190, List.forall_mem_cons.mpr ⟨w_1_192, List.forall_mem_cons.mpr ⟨w_1_194, List.forall_mem_cons.mpr ⟨w_1_196, List.forall_mem_cons.mpr ⟨w_1_198, List.forall_mem_cons.mpr ⟨w_1_200, fun _ h => absurd h List.not_mem_nil⟩⟩⟩⟩⟩⟩⟩⟩⟩⟩
theorem izX7 {a : Cond} : ∀ w ∈ u_ws RX7 TX7 10, w ∈ a :: lwG := fun w h => List.mem_cons_of_mem _ (inX7 w h)
theorem w_1_56 : Cond.laysFinal RX8 "TinHouse$Table" "width" "I" ∈ lwG := lwG_of (mt_1 (List.mem_of_getElem? (i := 56) (by decide +kernel))) rfl
theorem w_1_58 : Cond.laysFinal RX8 "TinHouse$Table" "limit" "I" ∈ lwG := lwG_of (mt_1 (List.mem_of_getElem? (i := 58) (by decide +kernel))) rfl
theorem w_1_60 : Cond.laysFinal RX8 "TinHouse$Table" "cells" "[I" ∈ lwG := lwG_of (mt_1 (List.mem_of_getElem? (i := 60) (by decide +kernel))) rfl
theorem w_1_62 : Cond.lays RX8 "TinHouse$Table" "rows" "I" ∈ lwG := lwG_of (mt_1 (List.mem_of_getElem? (i := 62) (by decide +kernel))) rfl
theorem inX8 : ∀ w ∈ u_ws RX8 TX8 4, w ∈ lwG := by
  have e : u_ws RX8 TX8 4 = [Cond.laysFinal RX8 "TinHouse$Table" "width" "I", Cond.laysFinal RX8 "TinHouse$Table" "limit" "I", Cond.laysFinal RX8 "TinHouse$Table" "cells" "[I", Cond.lays RX8 "TinHouse$Table" "rows" "I"] := by decide +kernel
  rw [e]
  exact List.forall_mem_cons.mpr ⟨w_1_56, List.forall_mem_cons.mpr ⟨w_1_58, List.forall_mem_cons.mpr ⟨w_1_60, List.forall_mem_cons.mpr ⟨w_1_62, fun _ h => absurd h List.not_mem_nil⟩⟩⟩⟩
theorem izX8 {a : Cond} : ∀ w ∈ u_ws RX8 TX8 4, w ∈ a :: lwG := fun w h => List.mem_cons_of_mem _ (inX8 w h)
theorem w_2_53 : Cond.laysFinal RX9 "TinHouse$Ways" "house" "LTinHouse$House;" ∈ lwG := lwG_of (mt_2 (List.mem_of_getElem? (i := 53) (by decide +kernel))) rfl
theorem w_2_55 : Cond.laysFinal RX9 "TinHouse$Ways" "law" "LTinHouse$Law;" ∈ lwG := lwG_of (mt_2 (List.mem_of_getElem? (i := 55) (by decide +kernel))) rfl
theorem inX9 : ∀ w ∈ u_ws RX9 TX9 2, w ∈ lwG := by
  have e : u_ws RX9 TX9 2 = [Cond.laysFinal RX9 "TinHouse$Ways" "house" "LTinHouse$House;", Cond.laysFinal RX9 "TinHouse$Ways" "law" "LTinHouse$Law;"] := by decide +kernel
  rw [e]
  exact List.forall_mem_cons.mpr ⟨w_2_53, List.forall_mem_cons.mpr ⟨w_2_55, fun _ h => absurd h List.not_mem_nil⟩⟩
theorem izX9 {a : Cond} : ∀ w ∈ u_ws RX9 TX9 2, w ∈ a :: lwG := fun w h => List.mem_cons_of_mem _ (inX9 w h)
theorem w_2_68 : Cond.laysFinal RX10 "TinHouse$Years" "house" "LTinHouse$House;" ∈ lwG := lwG_of (mt_2 (List.mem_of_getElem? (i := 68) (by decide +kernel))) rfl
theorem w_2_70 : Cond.laysFinal RX10 "TinHouse$Years" "ahead" "[I" ∈ lwG := lwG_of (mt_2 (List.mem_of_getElem? (i := 70) (by decide +kernel))) rfl
theorem w_2_72 : Cond.laysFinal RX10 "TinHouse$Years" "row" "[I" ∈ lwG := lwG_of (mt_2 (List.mem_of_getElem? (i := 72) (by decide +kernel))) rfl
theorem w_2_74 : Cond.laysFinal RX10 "TinHouse$Years" "found" "[I" ∈ lwG := lwG_of (mt_2 (List.mem_of_getElem? (i := 74) (by decide +kernel))) rfl
theorem inX10 : ∀ w ∈ u_ws RX10 TX10 4, w ∈ lwG := by
  have e : u_ws RX10 TX10 4 = [Cond.laysFinal RX10 "TinHouse$Years" "house" "LTinHouse$House;", Cond.laysFinal RX10 "TinHouse$Years" "ahead" "[I", Cond.laysFinal RX10 "TinHouse$Years" "row" "[I", Cond.laysFinal RX10 "TinHouse$Years" "found" "[I"] := by decide +kernel
  rw [e]
  exact List.forall_mem_cons.mpr ⟨w_2_68, List.forall_mem_cons.mpr ⟨w_2_70, List.forall_mem_cons.mpr ⟨w_2_72, List.forall_mem_cons.mpr ⟨w_2_74, fun _ h => absurd h List.not_mem_nil⟩⟩⟩⟩
theorem izX10 {a : Cond} : ∀ w ∈ u_ws RX10 TX10 4, w ∈ a :: lwG := fun w h => List.mem_cons_of_mem _ (inX10 w h)
theorem w_2_146 : Cond.laysFinal RX11 "TinHouse" "now" "LTinHouse$House;" ∈ lwG := lwG_of (mt_2 (List.mem_of_getElem? (i := 146) (by decide +kernel))) rfl
theorem w_2_148 : Cond.laysFinal RX11 "TinHouse" "images" "[LTinHouse$House;" ∈ lwG := lwG_of (mt_2 (List.mem_of_getElem? (i := 148) (by decide +kernel))) rfl
theorem w_2_150 : Cond.laysFinal RX11 "TinHouse" "reade\x72" "LTinHouse$Reader;" ∈ lwG := lwG_of (mt_2 (List.mem_of_getElem? (i := 150) (by decide +kernel))) rfl
theorem w_2_152 : Cond.laysFinal RX11 "TinHouse" "law" "LTinHouse$Law;" ∈ lwG := lwG_of (mt_2 (List.mem_of_getElem? (i := 152) (by decide +kernel))) rfl
theorem w_2_154 : Cond.laysFinal RX11 "TinHouse" "ledge\x72" "LTinHouse$Ledger;" ∈ lwG := lwG_of (mt_2 (List.mem_of_getElem? (i := 154) (by decide +kernel))) rfl
theorem w_2_156 : Cond.laysFinal RX11 "TinHouse" "nets" "LTinHouse$Nets;" ∈ lwG := lwG_of (mt_2 (List.mem_of_getElem? (i := 156) (by decide +kernel))) rfl
theorem w_2_158 : Cond.laysFinal RX11 "TinHouse" "ways" "LTinHouse$Ways;" ∈ lwG := lwG_of (mt_2 (List.mem_of_getElem? (i := 158) (by decide +kernel))) rfl
theorem w_2_160 : Cond.laysFinal RX11 "TinHouse" "years" "LTinHouse$Years;" ∈ lwG := lwG_of (mt_2 (List.mem_of_getElem? (i := 160) (by decide +kernel))) rfl
theorem w_2_162 : Cond.laysFinal RX11 "TinHouse" "post" "LTinHouse$Post;" ∈ lwG := lwG_of (mt_2 (List.mem_of_getElem? (i := 162) (by decide +kernel))) rfl
theorem w_2_164 : Cond.laysFinal RX11 "TinHouse" "persons" "LTinHouse$Men;" ∈ lwG := lwG_of (mt_2 (List.mem_of_getElem? (i := 164) (by decide +kernel))) rfl
theorem w_2_166 : Cond.laysFinal RX11 "TinHouse" "planne\x72" "LTinHouse$Planner;" ∈ lwG := lwG_of (mt_2 (List.mem_of_getElem? (i := 166) (by decide +kernel))) rfl
theorem w_2_168 : Cond.lays RX11 "TinHouse" "above" "J" ∈ lwG := lwG_of (mt_2 (List.mem_of_getElem? (i := 168) (by decide +kernel))) rfl
theorem w_2_170 : Cond.lays RX11 "TinHouse" "below" "J" ∈ lwG := lwG_of (mt_2 (List.mem_of_getElem? (i := 170) (by decide +kernel))) rfl
theorem inX11 : ∀ w ∈ u_ws RX11 TX11 13, w ∈ lwG := by
  have e : u_ws RX11 TX11 13 = [Cond.laysFinal RX11 "TinHouse" "now" "LTinHouse$House;", Cond.laysFinal RX11 "TinHouse" "images" "[LTinHouse$House;", Cond.laysFinal RX11 "TinHouse" "reade\x72" "LTinHouse$Reader;", Cond.laysFinal RX11 "TinHouse" "law" "LTinHouse$Law;", Cond.laysFinal RX11 "TinHouse" "ledge\x72" "LTinHouse$Ledger;", Cond.laysFinal RX11 "TinHouse" "nets" "LTinHouse$Nets;", Cond.laysFinal RX11 "TinHouse" "ways" "LTinHouse$Ways;", Cond.laysFinal RX11 "TinHouse" "years" "LTinHouse$Years;", Cond.laysFinal RX11 "TinHouse" "post" "LTinHouse$Post;", Cond.laysFinal RX11 "TinHouse" "persons" "LTinHouse$Men;", Cond.laysFinal RX11 "TinHouse" "planne\x72" "LTinHouse$Planner;", Cond.lays RX11 "TinHouse" "above" "J", Cond.lays RX11 "TinHouse" "below" "J"] := by decide +kernel
  rw [e]
  exact List.forall_mem_cons.mpr ⟨w_2_146, List.forall_mem_cons.mpr ⟨w_2_148, List.forall_mem_cons.mpr ⟨w_2_150, List.forall_mem_cons.mpr ⟨w_2_152, List.forall_mem_cons.mpr ⟨w_2_154, List.forall_mem_cons.mpr ⟨w_2_156, List.forall_mem_cons.mpr ⟨w_2_158, List.forall_mem_cons.mpr ⟨w_2_160, List.forall_mem_cons.mpr ⟨w_2_162, List.forall_mem_cons.mpr ⟨w_2_164, List.forall_mem_cons.mpr ⟨w_2_166, List.forall_mem_cons.mpr ⟨w_2_168, List.forall_mem_cons.mpr ⟨w_2_170, fun _ h => absurd h List.not_mem_nil⟩⟩⟩⟩⟩⟩⟩⟩⟩⟩⟩⟩⟩
theorem izX11 {a : Cond} : ∀ w ∈ u_ws RX11 TX11 13, w ∈ a :: lwG := fun w h => List.mem_cons_of_mem _ (inX11 w h)
theorem w_5_140 : Cond.laysFinal RX12 "TinHouseModel" "st" "[I" ∈ lwG := lwG_of (mt_5 (List.mem_of_getElem? (i := 140) (by decide +kernel))) rfl
theorem w_5_142 : Cond.laysFinal RX12 "TinHouseModel" "images" "[I" ∈ lwG := lwG_of (mt_5 (List.mem_of_getElem? (i := 142) (by decide +kernel))) rfl
theorem w_5_144 : Cond.laysFinal RX12 "TinHouseModel" "isKept" "[Z" ∈ lwG := lwG_of (mt_5 (List.mem_of_getElem? (i := 144) (by decide +kernel))) rfl
theorem w_5_146 : Cond.lays RX12 "TinHouseModel" "above" "J" ∈ lwG := lwG_of (mt_5 (List.mem_of_getElem? (i := 146) (by decide +kernel))) rfl
theorem w_5_148 : Cond.lays RX12 "TinHouseModel" "below" "J" ∈ lwG := lwG_of (mt_5 (List.mem_of_getElem? (i := 148) (by decide +kernel))) rfl
theorem w_5_150 : Cond.lays RX12 "TinHouseModel" "steps" "I" ∈ lwG := lwG_of (mt_5 (List.mem_of_getElem? (i := 150) (by decide +kernel))) rfl
theorem w_5_152 : Cond.laysFinal RX12 "TinHouseModel" "step" "[I" ∈ lwG := lwG_of (mt_5 (List.mem_of_getElem? (i := 152) (by decide +kernel))) rfl
theorem w_5_154 : Cond.laysFinal RX12 "TinHouseModel" "with" "[I" ∈ lwG := lwG_of (mt_5 (List.mem_of_getElem? (i := 154) (by decide +kernel))) rfl
theorem w_5_156 : Cond.lays RX12 "TinHouseModel" "waiting" "I" ∈ lwG := lwG_of (mt_5 (List.mem_of_getElem? (i := 156) (by decide +kernel))) rfl
theorem w_5_158 : Cond.laysFinal RX12 "TinHouseModel" "waits" "[I" ∈ lwG := lwG_of (mt_5 (List.mem_of_getElem? (i := 158) (by decide +kernel))) rfl
theorem w_5_160 : Cond.laysFinal RX12 "TinHouseModel" "value" "[J" ∈ lwG := lwG_of (mt_5 (List.mem_of_getElem? (i := 160) (by decide +kernel))) rfl
theorem w_5_162 : Cond.laysFinal RX12 "TinHouseModel" "given" "[J" ∈ lwG := lwG_of (mt_5 (List.mem_of_getElem? (i := 162) (by decide +kernel))) rfl
theorem w_5_164 : Cond.laysFinal RX12 "TinHouseModel" "net" "[J" ∈ lwG := lwG_of (mt_5 (List.mem_of_getElem? (i := 164) (by decide +kernel))) rfl
theorem w_5_166 : Cond.laysFinal RX12 "TinHouseModel" "togethe\x72" "[J" ∈ lwG := lwG_of (mt_5 (List.mem_of_getElem? (i := 166) (by decide +kernel))) rfl
theorem w_5_168 : Cond.laysFinal RX12 "TinHouseModel" "most" "[I" ∈ lwG := lwG_of (mt_5 (List.mem_of_getElem? (i := 168) (by decide +kernel))) rfl
theorem w_5_170 : Cond.laysFinal RX12 "TinHouseModel" "owes" "[Z" ∈ lwG := lwG_of (mt_5 (List.mem_of_getElem? (i := 170) (by decide +kernel))) rfl
theorem w_5_172 : Cond.laysFinal RX12 "TinHouseModel" "can" "[Z" ∈ lwG := lwG_of (mt_5 (List.mem_of_getElem? (i := 172) (by decide +kernel))) rfl
theorem w_5_174 : Cond.laysFinal RX12 "TinHouseModel" "row" "[I" ∈ lwG := lwG_of (mt_5 (List.mem_of_getElem? (i := 174) (by decide +kernel))) rfl
theorem w_5_176 : Cond.laysFinal RX12 "TinHouseModel" "before" "[I" ∈ lwG := lwG_of (mt_5 (List.mem_of_getElem? (i := 176) (by decide +kernel))) rfl
theorem w_5_178 : Cond.laysFinal RX12 "TinHouseModel" "to" "[J" ∈ lwG := lwG_of (mt_5 (List.mem_of_getElem? (i := 178) (by decide +kernel))) rfl
theorem w_5_180 : Cond.laysFinal RX12 "TinHouseModel" "on" "[J" ∈ lwG := lwG_of (mt_5 (List.mem_of_getElem? (i := 180) (by decide +kernel))) rfl
theorem w_5_182 : Cond.laysFinal RX12 "TinHouseModel" "load" "[I" ∈ lwG := lwG_of (mt_5 (List.mem_of_getElem? (i := 182) (by decide +kernel))) rfl
theorem w_5_184 : Cond.laysFinal RX12 "TinHouseModel" "lead" "[I" ∈ lwG := lwG_of (mt_5 (List.mem_of_getElem? (i := 184) (by decide +kernel))) rfl
theorem w_5_186 : Cond.laysFinal RX12 "TinHouseModel" "bestLead" "[I" ∈ lwG := lwG_of (mt_5 (List.mem_of_getElem? (i := 186) (by decide +kernel))) rfl
theorem w_5_188 : Cond.laysFinal RX12 "TinHouseModel" "silve\x72" "[J" ∈ lwG := lwG_of (mt_5 (List.mem_of_getElem? (i := 188) (by decide +kernel))) rfl
theorem inX12 : ∀ w ∈ u_ws RX12 TX12 25, w ∈ lwG := by
  have e : u_ws RX12 TX12 25 = [Cond.laysFinal RX12 "TinHouseModel" "st" "[I", Cond.laysFinal RX12 "TinHouseModel" "images" "[I", Cond.laysFinal RX12 "TinHouseModel" "isKept" "[Z", Cond.lays RX12 "TinHouseModel" "above" "J", Cond.lays RX12 "TinHouseModel" "below" "J", Cond.lays RX12 "TinHouseModel" "steps" "I", Cond.laysFinal RX12 "TinHouseModel" "step" "[I", Cond.laysFinal RX12 "TinHouseModel" "with" "[I", Cond.lays RX12 "TinHouseModel" "waiting" "I", Cond.laysFinal RX12 "TinHouseModel" "waits" "[I", Cond.laysFinal RX12 "TinHouseModel" "value" "[J", Cond.laysFinal RX12 "TinHouseModel" "given" "[J", Cond.laysFinal RX12 "TinHouseModel" "net" "[J", Cond.laysFinal RX12 "TinHouseModel" "togethe\x72" "[J", Cond.laysFinal RX12 "TinHouseModel" "most" "[I", Cond.laysFinal RX12 "TinHouseModel" "owes" "[Z", Cond.laysFinal RX12 "TinHouseModel" "can" "[Z", Cond.laysFinal RX12 "TinHouseModel" "row" "[I", Cond.laysFinal RX12 "TinHouseModel" "before" "[I", Cond.laysFinal RX12 "TinHouseModel" "to" "[J", Cond.laysFinal RX12 "TinHouseModel" "on" "[J", Cond.laysFinal RX12 "TinHouseModel" "load" "[I", Cond.laysFinal RX12 "TinHouseModel" "lead" "[I", Cond.laysFinal RX12 "TinHouseModel" "bestLead" "[I", Cond.laysFinal RX12 "TinHouseModel" "silve\x72" "[J"] := by decide +kernel
  rw [e]
  exact List.forall_mem_cons.mpr ⟨w_5_140, List.forall_mem_cons.mpr ⟨w_5_142, List.forall_mem_cons.mpr ⟨w_5_144, List.forall_mem_cons.mpr ⟨w_5_146, List.forall_mem_cons.mpr ⟨w_5_148, List.forall_mem_cons.mpr ⟨w_5_150, List.forall_mem_cons.mpr ⟨w_5_152, List.forall_mem_cons.mpr ⟨w_5_154, List.forall_mem_cons.mpr ⟨w_5_156, List.forall_mem_cons.mpr ⟨w_5_158, List.forall_mem_cons.mpr ⟨w_5_160, List.forall_mem_cons.mpr ⟨w_5_162, List.forall_mem_cons.mpr ⟨w_5_164, List.forall_mem_cons.mpr ⟨w_5_166, List.forall_mem_cons.mpr ⟨w_5_168, List.forall_mem_cons.mpr ⟨w_5_170, List.forall_mem_cons.mpr ⟨w_5_172, List.forall_mem_cons.mpr ⟨w_5_174, List.forall_mem_cons.mpr ⟨w_5_176, List.forall_mem_cons.mpr ⟨w_5_178, List.forall_mem_cons.mpr ⟨w_5_180, List.forall_mem_cons.mpr ⟨w_5_182, List.forall_mem_cons.mpr ⟨w_5_184, List.forall_mem_cons.mpr ⟨w_5_186, List.forall_mem_cons.mpr ⟨w_5_188, fun _ h => absurd h List.not_mem_nil⟩⟩⟩⟩⟩⟩⟩⟩⟩⟩⟩⟩⟩⟩⟩⟩⟩⟩⟩⟩⟩⟩⟩⟩⟩
theorem izX12 {a : Cond} : ∀ w ∈ u_ws RX12 TX12 25, w ∈ a :: lwG := fun w h => List.mem_cons_of_mem _ (inX12 w h)
theorem w_1_82 : Cond.fieldLink RX0 14 "TinHouse$House" "merchants" "LTinHouse$Table;" ∈ lwG := lwG_of (mt_1 (List.mem_of_getElem? (i := 82) (by decide +kernel))) rfl
theorem kX0_14 {a : Cond} : Cond.fieldLink RX0 14 "TinHouse$House" "merchants" "LTinHouse$Table;" ∈ a :: lwG := List.mem_cons_of_mem _ w_1_82
theorem w_1_87 : Cond.fieldLink RX0 20 "TinHouse$House" "texts" "LTinHouse$Table;" ∈ lwG := lwG_of (mt_1 (List.mem_of_getElem? (i := 87) (by decide +kernel))) rfl
theorem kX0_20 {a : Cond} : Cond.fieldLink RX0 20 "TinHouse$House" "texts" "LTinHouse$Table;" ∈ a :: lwG := List.mem_cons_of_mem _ w_1_87
theorem w_1_90 : Cond.fieldLink RX0 23 "TinHouse$House" "acts" "LTinHouse$Table;" ∈ lwG := lwG_of (mt_1 (List.mem_of_getElem? (i := 90) (by decide +kernel))) rfl
theorem kX0_23 {a : Cond} : Cond.fieldLink RX0 23 "TinHouse$House" "acts" "LTinHouse$Table;" ∈ a :: lwG := List.mem_cons_of_mem _ w_1_90
theorem w_1_93 : Cond.fieldLink RX0 26 "TinHouse$House" "debts" "LTinHouse$Table;" ∈ lwG := lwG_of (mt_1 (List.mem_of_getElem? (i := 93) (by decide +kernel))) rfl
theorem kX0_26 {a : Cond} : Cond.fieldLink RX0 26 "TinHouse$House" "debts" "LTinHouse$Table;" ∈ a :: lwG := List.mem_cons_of_mem _ w_1_93
theorem w_1_97 : Cond.fieldLink RX0 29 "TinHouse$House" "payments" "LTinHouse$Table;" ∈ lwG := lwG_of (mt_1 (List.mem_of_getElem? (i := 97) (by decide +kernel))) rfl
theorem kX0_29 {a : Cond} : Cond.fieldLink RX0 29 "TinHouse$House" "payments" "LTinHouse$Table;" ∈ a :: lwG := List.mem_cons_of_mem _ w_1_97
theorem w_1_100 : Cond.fieldLink RX0 32 "TinHouse$House" "purses" "LTinHouse$Table;" ∈ lwG := lwG_of (mt_1 (List.mem_of_getElem? (i := 100) (by decide +kernel))) rfl
theorem kX0_32 {a : Cond} : Cond.fieldLink RX0 32 "TinHouse$House" "purses" "LTinHouse$Table;" ∈ a :: lwG := List.mem_cons_of_mem _ w_1_100
theorem w_1_103 : Cond.fieldLink RX0 35 "TinHouse$House" "gates" "LTinHouse$Table;" ∈ lwG := lwG_of (mt_1 (List.mem_of_getElem? (i := 103) (by decide +kernel))) rfl
theorem kX0_35 {a : Cond} : Cond.fieldLink RX0 35 "TinHouse$House" "gates" "LTinHouse$Table;" ∈ a :: lwG := List.mem_cons_of_mem _ w_1_103
theorem w_1_106 : Cond.fieldLink RX0 38 "TinHouse$House" "stones" "LTinHouse$Table;" ∈ lwG := lwG_of (mt_1 (List.mem_of_getElem? (i := 106) (by decide +kernel))) rfl
theorem kX0_38 {a : Cond} : Cond.fieldLink RX0 38 "TinHouse$House" "stones" "LTinHouse$Table;" ∈ a :: lwG := List.mem_cons_of_mem _ w_1_106
theorem w_1_109 : Cond.fieldLink RX0 41 "TinHouse$House" "told" "LTinHouse$Table;" ∈ lwG := lwG_of (mt_1 (List.mem_of_getElem? (i := 109) (by decide +kernel))) rfl
theorem kX0_41 {a : Cond} : Cond.fieldLink RX0 41 "TinHouse$House" "told" "LTinHouse$Table;" ∈ a :: lwG := List.mem_cons_of_mem _ w_1_109
theorem w_1_112 : Cond.fieldLink RX0 44 "TinHouse$House" "letters" "LTinHouse$Table;" ∈ lwG := lwG_of (mt_1 (List.mem_of_getElem? (i := 112) (by decide +kernel))) rfl
theorem kX0_44 {a : Cond} : Cond.fieldLink RX0 44 "TinHouse$House" "letters" "LTinHouse$Table;" ∈ a :: lwG := List.mem_cons_of_mem _ w_1_112
theorem w_1_115 : Cond.fieldLink RX0 47 "TinHouse$House" "mentions" "LTinHouse$Table;" ∈ lwG := lwG_of (mt_1 (List.mem_of_getElem? (i := 115) (by decide +kernel))) rfl
theorem kX0_47 {a : Cond} : Cond.fieldLink RX0 47 "TinHouse$House" "mentions" "LTinHouse$Table;" ∈ a :: lwG := List.mem_cons_of_mem _ w_1_115
theorem w_1_118 : Cond.fieldLink RX0 50 "TinHouse$House" "loads" "LTinHouse$Table;" ∈ lwG := lwG_of (mt_1 (List.mem_of_getElem? (i := 118) (by decide +kernel))) rfl
theorem kX0_50 {a : Cond} : Cond.fieldLink RX0 50 "TinHouse$House" "loads" "LTinHouse$Table;" ∈ a :: lwG := List.mem_cons_of_mem _ w_1_118
theorem w_1_121 : Cond.fieldLink RX0 53 "TinHouse$House" "prices" "LTinHouse$Table;" ∈ lwG := lwG_of (mt_1 (List.mem_of_getElem? (i := 121) (by decide +kernel))) rfl
theorem kX0_53 {a : Cond} : Cond.fieldLink RX0 53 "TinHouse$House" "prices" "LTinHouse$Table;" ∈ a :: lwG := List.mem_cons_of_mem _ w_1_121
theorem w_1_124 : Cond.fieldLink RX0 56 "TinHouse$House" "narrow" "I" ∈ lwG := lwG_of (mt_1 (List.mem_of_getElem? (i := 124) (by decide +kernel))) rfl
theorem kX0_56 {a : Cond} : Cond.fieldLink RX0 56 "TinHouse$House" "narrow" "I" ∈ a :: lwG := List.mem_cons_of_mem _ w_1_124
theorem w_1_127 : Cond.fieldLink RX0 60 "TinHouse$House" "names" "I" ∈ lwG := lwG_of (mt_1 (List.mem_of_getElem? (i := 127) (by decide +kernel))) rfl
theorem kX0_60 {a : Cond} : Cond.fieldLink RX0 60 "TinHouse$House" "names" "I" ∈ a :: lwG := List.mem_cons_of_mem _ w_1_127
theorem w_1_52 : Cond.fieldLink RX0 71 "TinHouse$Table" "rows" "I" ∈ lwG := lwG_of (mt_1 (List.mem_of_getElem? (i := 52) (by decide +kernel))) rfl
theorem kX0_71 {a : Cond} : Cond.fieldLink RX0 71 "TinHouse$Table" "rows" "I" ∈ a :: lwG := List.mem_cons_of_mem _ w_1_52
theorem w_1_210 : Cond.fieldLink RX1 9 "TinHouse$Law" "stack" "[J" ∈ lwG := lwG_of (mt_1 (List.mem_of_getElem? (i := 210) (by decide +kernel))) rfl
theorem kX1_9 {a : Cond} : Cond.fieldLink RX1 9 "TinHouse$Law" "stack" "[J" ∈ a :: lwG := List.mem_cons_of_mem _ w_1_210
theorem w_1_209 : Cond.fieldLink RX1 15 "TinHouse$Law" "house" "LTinHouse$House;" ∈ lwG := lwG_of (mt_1 (List.mem_of_getElem? (i := 209) (by decide +kernel))) rfl
theorem kX1_15 {a : Cond} : Cond.fieldLink RX1 15 "TinHouse$Law" "house" "LTinHouse$House;" ∈ a :: lwG := List.mem_cons_of_mem _ w_1_209
theorem w_1_88 : Cond.fieldLink RX1 19 "TinHouse$House" "texts" "LTinHouse$Table;" ∈ lwG := lwG_of (mt_1 (List.mem_of_getElem? (i := 88) (by decide +kernel))) rfl
theorem kX1_19 {a : Cond} : Cond.fieldLink RX1 19 "TinHouse$House" "texts" "LTinHouse$Table;" ∈ a :: lwG := List.mem_cons_of_mem _ w_1_88
theorem w_1_91 : Cond.fieldLink RX1 31 "TinHouse$House" "acts" "LTinHouse$Table;" ∈ lwG := lwG_of (mt_1 (List.mem_of_getElem? (i := 91) (by decide +kernel))) rfl
theorem kX1_31 {a : Cond} : Cond.fieldLink RX1 31 "TinHouse$House" "acts" "LTinHouse$Table;" ∈ a :: lwG := List.mem_cons_of_mem _ w_1_91
theorem w_1_172 : Cond.fieldLink RX1 38 "TinHouse$Reade\x72" "count" "I" ∈ lwG := lwG_of (mt_1 (List.mem_of_getElem? (i := 172) (by decide +kernel))) rfl
theorem kX1_38 {a : Cond} : Cond.fieldLink RX1 38 "TinHouse$Reade\x72" "count" "I" ∈ a :: lwG := List.mem_cons_of_mem _ w_1_172
theorem w_1_169 : Cond.fieldLink RX1 44 "TinHouse$Reade\x72" "codes" "[I" ∈ lwG := lwG_of (mt_1 (List.mem_of_getElem? (i := 169) (by decide +kernel))) rfl
theorem kX1_44 {a : Cond} : Cond.fieldLink RX1 44 "TinHouse$Reade\x72" "codes" "[I" ∈ a :: lwG := List.mem_cons_of_mem _ w_1_169
theorem w_1_51 : Cond.fieldLink RX1 48 "TinHouse$Table" "rows" "I" ∈ lwG := lwG_of (mt_1 (List.mem_of_getElem? (i := 51) (by decide +kernel))) rfl
theorem kX1_48 {a : Cond} : Cond.fieldLink RX1 48 "TinHouse$Table" "rows" "I" ∈ a :: lwG := List.mem_cons_of_mem _ w_1_51
theorem w_3_132 : Cond.fieldLink RX1 51 "TinHouse$Law" "USUAL" "[I" ∈ lwG := lwG_of (mt_3 (List.mem_of_getElem? (i := 132) (by decide +kernel))) rfl
theorem kX1_51 {a : Cond} : Cond.fieldLink RX1 51 "TinHouse$Law" "USUAL" "[I" ∈ a :: lwG := List.mem_cons_of_mem _ w_3_132
theorem w_3_134 : Cond.fieldLink RX1 54 "TinHouse$Law" "MOST" "[I" ∈ lwG := lwG_of (mt_3 (List.mem_of_getElem? (i := 134) (by decide +kernel))) rfl
theorem kX1_54 {a : Cond} : Cond.fieldLink RX1 54 "TinHouse$Law" "MOST" "[I" ∈ a :: lwG := List.mem_cons_of_mem _ w_3_134
theorem w_1_44 : Cond.fieldLink RX1 67 "TinHouse$Table" "cells" "[I" ∈ lwG := lwG_of (mt_1 (List.mem_of_getElem? (i := 44) (by decide +kernel))) rfl
theorem kX1_67 {a : Cond} : Cond.fieldLink RX1 67 "TinHouse$Table" "cells" "[I" ∈ a :: lwG := List.mem_cons_of_mem _ w_1_44
theorem w_1_212 : Cond.fieldLink RX1 83 "TinHouse$Law" "gate" "I" ∈ lwG := lwG_of (mt_1 (List.mem_of_getElem? (i := 212) (by decide +kernel))) rfl
theorem kX1_83 {a : Cond} : Cond.fieldLink RX1 83 "TinHouse$Law" "gate" "I" ∈ a :: lwG := List.mem_cons_of_mem _ w_1_212
theorem w_1_213 : Cond.fieldLink RX1 86 "TinHouse$Law" "kin" "I" ∈ lwG := lwG_of (mt_1 (List.mem_of_getElem? (i := 213) (by decide +kernel))) rfl
theorem kX1_86 {a : Cond} : Cond.fieldLink RX1 86 "TinHouse$Law" "kin" "I" ∈ a :: lwG := List.mem_cons_of_mem _ w_1_213
theorem w_1_214 : Cond.fieldLink RX1 89 "TinHouse$Law" "town" "I" ∈ lwG := lwG_of (mt_1 (List.mem_of_getElem? (i := 214) (by decide +kernel))) rfl
theorem kX1_89 {a : Cond} : Cond.fieldLink RX1 89 "TinHouse$Law" "town" "I" ∈ a :: lwG := List.mem_cons_of_mem _ w_1_214
theorem w_1_215 : Cond.fieldLink RX1 92 "TinHouse$Law" "season" "I" ∈ lwG := lwG_of (mt_1 (List.mem_of_getElem? (i := 215) (by decide +kernel))) rfl
theorem kX1_92 {a : Cond} : Cond.fieldLink RX1 92 "TinHouse$Law" "season" "I" ∈ a :: lwG := List.mem_cons_of_mem _ w_1_215
theorem w_1_216 : Cond.fieldLink RX1 95 "TinHouse$Law" "about" "J" ∈ lwG := lwG_of (mt_1 (List.mem_of_getElem? (i := 216) (by decide +kernel))) rfl
theorem kX1_95 {a : Cond} : Cond.fieldLink RX1 95 "TinHouse$Law" "about" "J" ∈ a :: lwG := List.mem_cons_of_mem _ w_1_216
theorem w_1_211 : Cond.fieldLink RX1 99 "TinHouse$Law" "height" "I" ∈ lwG := lwG_of (mt_1 (List.mem_of_getElem? (i := 211) (by decide +kernel))) rfl
theorem kX1_99 {a : Cond} : Cond.fieldLink RX1 99 "TinHouse$Law" "height" "I" ∈ a :: lwG := List.mem_cons_of_mem _ w_1_211
theorem w_2_65 : Cond.fieldLink RX10 9 "TinHouse$Years" "ahead" "[I" ∈ lwG := lwG_of (mt_2 (List.mem_of_getElem? (i := 65) (by decide +kernel))) rfl
theorem kX10_9 {a : Cond} : Cond.fieldLink RX10 9 "TinHouse$Years" "ahead" "[I" ∈ a :: lwG := List.mem_cons_of_mem _ w_2_65
theorem w_2_66 : Cond.fieldLink RX10 15 "TinHouse$Years" "row" "[I" ∈ lwG := lwG_of (mt_2 (List.mem_of_getElem? (i := 66) (by decide +kernel))) rfl
theorem kX10_15 {a : Cond} : Cond.fieldLink RX10 15 "TinHouse$Years" "row" "[I" ∈ a :: lwG := List.mem_cons_of_mem _ w_2_66
theorem w_2_67 : Cond.fieldLink RX10 18 "TinHouse$Years" "found" "[I" ∈ lwG := lwG_of (mt_2 (List.mem_of_getElem? (i := 67) (by decide +kernel))) rfl
theorem kX10_18 {a : Cond} : Cond.fieldLink RX10 18 "TinHouse$Years" "found" "[I" ∈ a :: lwG := List.mem_cons_of_mem _ w_2_67
theorem w_2_64 : Cond.fieldLink RX10 21 "TinHouse$Years" "house" "LTinHouse$House;" ∈ lwG := lwG_of (mt_2 (List.mem_of_getElem? (i := 64) (by decide +kernel))) rfl
theorem kX10_21 {a : Cond} : Cond.fieldLink RX10 21 "TinHouse$Years" "house" "LTinHouse$House;" ∈ a :: lwG := List.mem_cons_of_mem _ w_2_64
theorem w_1_110 : Cond.fieldLink RX10 31 "TinHouse$House" "told" "LTinHouse$Table;" ∈ lwG := lwG_of (mt_1 (List.mem_of_getElem? (i := 110) (by decide +kernel))) rfl
theorem kX10_31 {a : Cond} : Cond.fieldLink RX10 31 "TinHouse$House" "told" "LTinHouse$Table;" ∈ a :: lwG := List.mem_cons_of_mem _ w_1_110
theorem w_1_47 : Cond.fieldLink RX10 37 "TinHouse$Table" "rows" "I" ∈ lwG := lwG_of (mt_1 (List.mem_of_getElem? (i := 47) (by decide +kernel))) rfl
theorem kX10_37 {a : Cond} : Cond.fieldLink RX10 37 "TinHouse$Table" "rows" "I" ∈ a :: lwG := List.mem_cons_of_mem _ w_1_47
theorem w_1_128 : Cond.fieldLink RX10 47 "TinHouse$House" "names" "I" ∈ lwG := lwG_of (mt_1 (List.mem_of_getElem? (i := 128) (by decide +kernel))) rfl
theorem kX10_47 {a : Cond} : Cond.fieldLink RX10 47 "TinHouse$House" "names" "I" ∈ a :: lwG := List.mem_cons_of_mem _ w_1_128
theorem w_2_133 : Cond.fieldLink RX11 12 "TinHouse" "now" "LTinHouse$House;" ∈ lwG := lwG_of (mt_2 (List.mem_of_getElem? (i := 133) (by decide +kernel))) rfl
theorem kX11_12 {a : Cond} : Cond.fieldLink RX11 12 "TinHouse" "now" "LTinHouse$House;" ∈ a :: lwG := List.mem_cons_of_mem _ w_2_133
theorem w_2_134 : Cond.fieldLink RX11 16 "TinHouse" "images" "[LTinHouse$House;" ∈ lwG := lwG_of (mt_2 (List.mem_of_getElem? (i := 134) (by decide +kernel))) rfl
theorem kX11_16 {a : Cond} : Cond.fieldLink RX11 16 "TinHouse" "images" "[LTinHouse$House;" ∈ a :: lwG := List.mem_cons_of_mem _ w_2_134
theorem w_2_135 : Cond.fieldLink RX11 23 "TinHouse" "reade\x72" "LTinHouse$Reader;" ∈ lwG := lwG_of (mt_2 (List.mem_of_getElem? (i := 135) (by decide +kernel))) rfl
theorem kX11_23 {a : Cond} : Cond.fieldLink RX11 23 "TinHouse" "reade\x72" "LTinHouse$Reader;" ∈ a :: lwG := List.mem_cons_of_mem _ w_2_135
theorem w_2_136 : Cond.fieldLink RX11 32 "TinHouse" "law" "LTinHouse$Law;" ∈ lwG := lwG_of (mt_2 (List.mem_of_getElem? (i := 136) (by decide +kernel))) rfl
theorem kX11_32 {a : Cond} : Cond.fieldLink RX11 32 "TinHouse" "law" "LTinHouse$Law;" ∈ a :: lwG := List.mem_cons_of_mem _ w_2_136
theorem w_2_137 : Cond.fieldLink RX11 41 "TinHouse" "ledge\x72" "LTinHouse$Ledger;" ∈ lwG := lwG_of (mt_2 (List.mem_of_getElem? (i := 137) (by decide +kernel))) rfl
theorem kX11_41 {a : Cond} : Cond.fieldLink RX11 41 "TinHouse" "ledge\x72" "LTinHouse$Ledger;" ∈ a :: lwG := List.mem_cons_of_mem _ w_2_137
theorem w_2_138 : Cond.fieldLink RX11 50 "TinHouse" "nets" "LTinHouse$Nets;" ∈ lwG := lwG_of (mt_2 (List.mem_of_getElem? (i := 138) (by decide +kernel))) rfl
theorem kX11_50 {a : Cond} : Cond.fieldLink RX11 50 "TinHouse" "nets" "LTinHouse$Nets;" ∈ a :: lwG := List.mem_cons_of_mem _ w_2_138
theorem w_2_139 : Cond.fieldLink RX11 57 "TinHouse" "ways" "LTinHouse$Ways;" ∈ lwG := lwG_of (mt_2 (List.mem_of_getElem? (i := 139) (by decide +kernel))) rfl
theorem kX11_57 {a : Cond} : Cond.fieldLink RX11 57 "TinHouse" "ways" "LTinHouse$Ways;" ∈ a :: lwG := List.mem_cons_of_mem _ w_2_139
theorem w_2_140 : Cond.fieldLink RX11 64 "TinHouse" "years" "LTinHouse$Years;" ∈ lwG := lwG_of (mt_2 (List.mem_of_getElem? (i := 140) (by decide +kernel))) rfl
theorem kX11_64 {a : Cond} : Cond.fieldLink RX11 64 "TinHouse" "years" "LTinHouse$Years;" ∈ a :: lwG := List.mem_cons_of_mem _ w_2_140
theorem w_2_141 : Cond.fieldLink RX11 71 "TinHouse" "post" "LTinHouse$Post;" ∈ lwG := lwG_of (mt_2 (List.mem_of_getElem? (i := 141) (by decide +kernel))) rfl
theorem kX11_71 {a : Cond} : Cond.fieldLink RX11 71 "TinHouse" "post" "LTinHouse$Post;" ∈ a :: lwG := List.mem_cons_of_mem _ w_2_141
theorem w_2_142 : Cond.fieldLink RX11 78 "TinHouse" "persons" "LTinHouse$Men;" ∈ lwG := lwG_of (mt_2 (List.mem_of_getElem? (i := 142) (by decide +kernel))) rfl
theorem kX11_78 {a : Cond} : Cond.fieldLink RX11 78 "TinHouse" "persons" "LTinHouse$Men;" ∈ a :: lwG := List.mem_cons_of_mem _ w_2_142
theorem w_2_143 : Cond.fieldLink RX11 87 "TinHouse" "planne\x72" "LTinHouse$Planner;" ∈ lwG := lwG_of (mt_2 (List.mem_of_getElem? (i := 143) (by decide +kernel))) rfl
theorem kX11_87 {a : Cond} : Cond.fieldLink RX11 87 "TinHouse" "planne\x72" "LTinHouse$Planner;" ∈ a :: lwG := List.mem_cons_of_mem _ w_2_143
theorem w_2_144 : Cond.fieldLink RX11 91 "TinHouse" "above" "J" ∈ lwG := lwG_of (mt_2 (List.mem_of_getElem? (i := 144) (by decide +kernel))) rfl
theorem kX11_91 {a : Cond} : Cond.fieldLink RX11 91 "TinHouse" "above" "J" ∈ a :: lwG := List.mem_cons_of_mem _ w_2_144
theorem w_2_145 : Cond.fieldLink RX11 95 "TinHouse" "below" "J" ∈ lwG := lwG_of (mt_2 (List.mem_of_getElem? (i := 145) (by decide +kernel))) rfl
theorem kX11_95 {a : Cond} : Cond.fieldLink RX11 95 "TinHouse" "below" "J" ∈ a :: lwG := List.mem_cons_of_mem _ w_2_145
theorem w_1_84 : Cond.fieldLink RX11 102 "TinHouse$House" "merchants" "LTinHouse$Table;" ∈ lwG := lwG_of (mt_1 (List.mem_of_getElem? (i := 84) (by decide +kernel))) rfl
theorem kX11_102 {a : Cond} : Cond.fieldLink RX11 102 "TinHouse$House" "merchants" "LTinHouse$Table;" ∈ a :: lwG := List.mem_cons_of_mem _ w_1_84
theorem w_1_89 : Cond.fieldLink RX11 116 "TinHouse$House" "texts" "LTinHouse$Table;" ∈ lwG := lwG_of (mt_1 (List.mem_of_getElem? (i := 89) (by decide +kernel))) rfl
theorem kX11_116 {a : Cond} : Cond.fieldLink RX11 116 "TinHouse$House" "texts" "LTinHouse$Table;" ∈ a :: lwG := List.mem_cons_of_mem _ w_1_89
theorem w_1_170 : Cond.fieldLink RX11 143 "TinHouse$Reade\x72" "codes" "[I" ∈ lwG := lwG_of (mt_1 (List.mem_of_getElem? (i := 170) (by decide +kernel))) rfl
theorem kX11_143 {a : Cond} : Cond.fieldLink RX11 143 "TinHouse$Reade\x72" "codes" "[I" ∈ a :: lwG := List.mem_cons_of_mem _ w_1_170
theorem w_1_173 : Cond.fieldLink RX11 147 "TinHouse$Reade\x72" "count" "I" ∈ lwG := lwG_of (mt_1 (List.mem_of_getElem? (i := 173) (by decide +kernel))) rfl
theorem kX11_147 {a : Cond} : Cond.fieldLink RX11 147 "TinHouse$Reade\x72" "count" "I" ∈ a :: lwG := List.mem_cons_of_mem _ w_1_173
theorem w_1_92 : Cond.fieldLink RX11 155 "TinHouse$House" "acts" "LTinHouse$Table;" ∈ lwG := lwG_of (mt_1 (List.mem_of_getElem? (i := 92) (by decide +kernel))) rfl
theorem kX11_155 {a : Cond} : Cond.fieldLink RX11 155 "TinHouse$House" "acts" "LTinHouse$Table;" ∈ a :: lwG := List.mem_cons_of_mem _ w_1_92
theorem w_1_96 : Cond.fieldLink RX11 169 "TinHouse$House" "debts" "LTinHouse$Table;" ∈ lwG := lwG_of (mt_1 (List.mem_of_getElem? (i := 96) (by decide +kernel))) rfl
theorem kX11_169 {a : Cond} : Cond.fieldLink RX11 169 "TinHouse$House" "debts" "LTinHouse$Table;" ∈ a :: lwG := List.mem_cons_of_mem _ w_1_96
theorem w_1_99 : Cond.fieldLink RX11 175 "TinHouse$House" "payments" "LTinHouse$Table;" ∈ lwG := lwG_of (mt_1 (List.mem_of_getElem? (i := 99) (by decide +kernel))) rfl
theorem kX11_175 {a : Cond} : Cond.fieldLink RX11 175 "TinHouse$House" "payments" "LTinHouse$Table;" ∈ a :: lwG := List.mem_cons_of_mem _ w_1_99
theorem w_1_102 : Cond.fieldLink RX11 184 "TinHouse$House" "purses" "LTinHouse$Table;" ∈ lwG := lwG_of (mt_1 (List.mem_of_getElem? (i := 102) (by decide +kernel))) rfl
theorem kX11_184 {a : Cond} : Cond.fieldLink RX11 184 "TinHouse$House" "purses" "LTinHouse$Table;" ∈ a :: lwG := List.mem_cons_of_mem _ w_1_102
theorem w_1_105 : Cond.fieldLink RX11 202 "TinHouse$House" "gates" "LTinHouse$Table;" ∈ lwG := lwG_of (mt_1 (List.mem_of_getElem? (i := 105) (by decide +kernel))) rfl
theorem kX11_202 {a : Cond} : Cond.fieldLink RX11 202 "TinHouse$House" "gates" "LTinHouse$Table;" ∈ a :: lwG := List.mem_cons_of_mem _ w_1_105
theorem w_1_126 : Cond.fieldLink RX11 212 "TinHouse$House" "narrow" "I" ∈ lwG := lwG_of (mt_1 (List.mem_of_getElem? (i := 126) (by decide +kernel))) rfl
theorem kX11_212 {a : Cond} : Cond.fieldLink RX11 212 "TinHouse$House" "narrow" "I" ∈ a :: lwG := List.mem_cons_of_mem _ w_1_126
theorem w_1_108 : Cond.fieldLink RX11 219 "TinHouse$House" "stones" "LTinHouse$Table;" ∈ lwG := lwG_of (mt_1 (List.mem_of_getElem? (i := 108) (by decide +kernel))) rfl
theorem kX11_219 {a : Cond} : Cond.fieldLink RX11 219 "TinHouse$House" "stones" "LTinHouse$Table;" ∈ a :: lwG := List.mem_cons_of_mem _ w_1_108
theorem w_1_129 : Cond.fieldLink RX11 257 "TinHouse$House" "names" "I" ∈ lwG := lwG_of (mt_1 (List.mem_of_getElem? (i := 129) (by decide +kernel))) rfl
theorem kX11_257 {a : Cond} : Cond.fieldLink RX11 257 "TinHouse$House" "names" "I" ∈ a :: lwG := List.mem_cons_of_mem _ w_1_129
theorem w_1_111 : Cond.fieldLink RX11 260 "TinHouse$House" "told" "LTinHouse$Table;" ∈ lwG := lwG_of (mt_1 (List.mem_of_getElem? (i := 111) (by decide +kernel))) rfl
theorem kX11_260 {a : Cond} : Cond.fieldLink RX11 260 "TinHouse$House" "told" "LTinHouse$Table;" ∈ a :: lwG := List.mem_cons_of_mem _ w_1_111
theorem w_1_114 : Cond.fieldLink RX11 287 "TinHouse$House" "letters" "LTinHouse$Table;" ∈ lwG := lwG_of (mt_1 (List.mem_of_getElem? (i := 114) (by decide +kernel))) rfl
theorem kX11_287 {a : Cond} : Cond.fieldLink RX11 287 "TinHouse$House" "letters" "LTinHouse$Table;" ∈ a :: lwG := List.mem_cons_of_mem _ w_1_114
theorem w_1_55 : Cond.fieldLink RX11 296 "TinHouse$Table" "rows" "I" ∈ lwG := lwG_of (mt_1 (List.mem_of_getElem? (i := 55) (by decide +kernel))) rfl
theorem kX11_296 {a : Cond} : Cond.fieldLink RX11 296 "TinHouse$Table" "rows" "I" ∈ a :: lwG := List.mem_cons_of_mem _ w_1_55
theorem w_1_117 : Cond.fieldLink RX11 302 "TinHouse$House" "mentions" "LTinHouse$Table;" ∈ lwG := lwG_of (mt_1 (List.mem_of_getElem? (i := 117) (by decide +kernel))) rfl
theorem kX11_302 {a : Cond} : Cond.fieldLink RX11 302 "TinHouse$House" "mentions" "LTinHouse$Table;" ∈ a :: lwG := List.mem_cons_of_mem _ w_1_117
theorem w_1_120 : Cond.fieldLink RX11 311 "TinHouse$House" "loads" "LTinHouse$Table;" ∈ lwG := lwG_of (mt_1 (List.mem_of_getElem? (i := 120) (by decide +kernel))) rfl
theorem kX11_311 {a : Cond} : Cond.fieldLink RX11 311 "TinHouse$House" "loads" "LTinHouse$Table;" ∈ a :: lwG := List.mem_cons_of_mem _ w_1_120
theorem w_1_123 : Cond.fieldLink RX11 314 "TinHouse$House" "prices" "LTinHouse$Table;" ∈ lwG := lwG_of (mt_1 (List.mem_of_getElem? (i := 123) (by decide +kernel))) rfl
theorem kX11_314 {a : Cond} : Cond.fieldLink RX11 314 "TinHouse$House" "prices" "LTinHouse$Table;" ∈ a :: lwG := List.mem_cons_of_mem _ w_1_123
theorem w_2_116 : Cond.fieldLink RX11 323 "TinHouse$Planne\x72" "best" "J" ∈ lwG := lwG_of (mt_2 (List.mem_of_getElem? (i := 116) (by decide +kernel))) rfl
theorem kX11_323 {a : Cond} : Cond.fieldLink RX11 323 "TinHouse$Planne\x72" "best" "J" ∈ a :: lwG := List.mem_cons_of_mem _ w_2_116
theorem w_2_118 : Cond.fieldLink RX11 326 "TinHouse$Planne\x72" "bestPlan" "I" ∈ lwG := lwG_of (mt_2 (List.mem_of_getElem? (i := 118) (by decide +kernel))) rfl
theorem kX11_326 {a : Cond} : Cond.fieldLink RX11 326 "TinHouse$Planne\x72" "bestPlan" "I" ∈ a :: lwG := List.mem_cons_of_mem _ w_2_118
theorem w_5_115 : Cond.fieldLink RX12 7 "TinHouseModel" "st" "[I" ∈ lwG := lwG_of (mt_5 (List.mem_of_getElem? (i := 115) (by decide +kernel))) rfl
theorem kX12_7 {a : Cond} : Cond.fieldLink RX12 7 "TinHouseModel" "st" "[I" ∈ a :: lwG := List.mem_cons_of_mem _ w_5_115
theorem w_5_116 : Cond.fieldLink RX12 13 "TinHouseModel" "images" "[I" ∈ lwG := lwG_of (mt_5 (List.mem_of_getElem? (i := 116) (by decide +kernel))) rfl
theorem kX12_13 {a : Cond} : Cond.fieldLink RX12 13 "TinHouseModel" "images" "[I" ∈ a :: lwG := List.mem_cons_of_mem _ w_5_116
theorem w_5_117 : Cond.fieldLink RX12 16 "TinHouseModel" "isKept" "[Z" ∈ lwG := lwG_of (mt_5 (List.mem_of_getElem? (i := 117) (by decide +kernel))) rfl
theorem kX12_16 {a : Cond} : Cond.fieldLink RX12 16 "TinHouseModel" "isKept" "[Z" ∈ a :: lwG := List.mem_cons_of_mem _ w_5_117
theorem w_5_121 : Cond.fieldLink RX12 20 "TinHouseModel" "step" "[I" ∈ lwG := lwG_of (mt_5 (List.mem_of_getElem? (i := 121) (by decide +kernel))) rfl
theorem kX12_20 {a : Cond} : Cond.fieldLink RX12 20 "TinHouseModel" "step" "[I" ∈ a :: lwG := List.mem_cons_of_mem _ w_5_121
theorem w_5_122 : Cond.fieldLink RX12 23 "TinHouseModel" "with" "[I" ∈ lwG := lwG_of (mt_5 (List.mem_of_getElem? (i := 122) (by decide +kernel))) rfl
theorem kX12_23 {a : Cond} : Cond.fieldLink RX12 23 "TinHouseModel" "with" "[I" ∈ a :: lwG := List.mem_cons_of_mem _ w_5_122
theorem w_5_124 : Cond.fieldLink RX12 26 "TinHouseModel" "waits" "[I" ∈ lwG := lwG_of (mt_5 (List.mem_of_getElem? (i := 124) (by decide +kernel))) rfl
theorem kX12_26 {a : Cond} : Cond.fieldLink RX12 26 "TinHouseModel" "waits" "[I" ∈ a :: lwG := List.mem_cons_of_mem _ w_5_124
theorem w_5_125 : Cond.fieldLink RX12 29 "TinHouseModel" "value" "[J" ∈ lwG := lwG_of (mt_5 (List.mem_of_getElem? (i := 125) (by decide +kernel))) rfl
theorem kX12_29 {a : Cond} : Cond.fieldLink RX12 29 "TinHouseModel" "value" "[J" ∈ a :: lwG := List.mem_cons_of_mem _ w_5_125
theorem w_5_126 : Cond.fieldLink RX12 33 "TinHouseModel" "given" "[J" ∈ lwG := lwG_of (mt_5 (List.mem_of_getElem? (i := 126) (by decide +kernel))) rfl
theorem kX12_33 {a : Cond} : Cond.fieldLink RX12 33 "TinHouseModel" "given" "[J" ∈ a :: lwG := List.mem_cons_of_mem _ w_5_126
theorem w_5_127 : Cond.fieldLink RX12 36 "TinHouseModel" "net" "[J" ∈ lwG := lwG_of (mt_5 (List.mem_of_getElem? (i := 127) (by decide +kernel))) rfl
theorem kX12_36 {a : Cond} : Cond.fieldLink RX12 36 "TinHouseModel" "net" "[J" ∈ a :: lwG := List.mem_cons_of_mem _ w_5_127
theorem w_5_128 : Cond.fieldLink RX12 39 "TinHouseModel" "togethe\x72" "[J" ∈ lwG := lwG_of (mt_5 (List.mem_of_getElem? (i := 128) (by decide +kernel))) rfl
theorem kX12_39 {a : Cond} : Cond.fieldLink RX12 39 "TinHouseModel" "togethe\x72" "[J" ∈ a :: lwG := List.mem_cons_of_mem _ w_5_128
theorem w_5_129 : Cond.fieldLink RX12 42 "TinHouseModel" "most" "[I" ∈ lwG := lwG_of (mt_5 (List.mem_of_getElem? (i := 129) (by decide +kernel))) rfl
theorem kX12_42 {a : Cond} : Cond.fieldLink RX12 42 "TinHouseModel" "most" "[I" ∈ a :: lwG := List.mem_cons_of_mem _ w_5_129
theorem w_5_130 : Cond.fieldLink RX12 45 "TinHouseModel" "owes" "[Z" ∈ lwG := lwG_of (mt_5 (List.mem_of_getElem? (i := 130) (by decide +kernel))) rfl
theorem kX12_45 {a : Cond} : Cond.fieldLink RX12 45 "TinHouseModel" "owes" "[Z" ∈ a :: lwG := List.mem_cons_of_mem _ w_5_130
theorem w_5_131 : Cond.fieldLink RX12 48 "TinHouseModel" "can" "[Z" ∈ lwG := lwG_of (mt_5 (List.mem_of_getElem? (i := 131) (by decide +kernel))) rfl
theorem kX12_48 {a : Cond} : Cond.fieldLink RX12 48 "TinHouseModel" "can" "[Z" ∈ a :: lwG := List.mem_cons_of_mem _ w_5_131
theorem w_5_132 : Cond.fieldLink RX12 51 "TinHouseModel" "row" "[I" ∈ lwG := lwG_of (mt_5 (List.mem_of_getElem? (i := 132) (by decide +kernel))) rfl
theorem kX12_51 {a : Cond} : Cond.fieldLink RX12 51 "TinHouseModel" "row" "[I" ∈ a :: lwG := List.mem_cons_of_mem _ w_5_132
theorem w_5_133 : Cond.fieldLink RX12 54 "TinHouseModel" "before" "[I" ∈ lwG := lwG_of (mt_5 (List.mem_of_getElem? (i := 133) (by decide +kernel))) rfl
theorem kX12_54 {a : Cond} : Cond.fieldLink RX12 54 "TinHouseModel" "before" "[I" ∈ a :: lwG := List.mem_cons_of_mem _ w_5_133
theorem w_5_134 : Cond.fieldLink RX12 57 "TinHouseModel" "to" "[J" ∈ lwG := lwG_of (mt_5 (List.mem_of_getElem? (i := 134) (by decide +kernel))) rfl
theorem kX12_57 {a : Cond} : Cond.fieldLink RX12 57 "TinHouseModel" "to" "[J" ∈ a :: lwG := List.mem_cons_of_mem _ w_5_134
theorem w_5_135 : Cond.fieldLink RX12 60 "TinHouseModel" "on" "[J" ∈ lwG := lwG_of (mt_5 (List.mem_of_getElem? (i := 135) (by decide +kernel))) rfl
theorem kX12_60 {a : Cond} : Cond.fieldLink RX12 60 "TinHouseModel" "on" "[J" ∈ a :: lwG := List.mem_cons_of_mem _ w_5_135
theorem w_5_136 : Cond.fieldLink RX12 63 "TinHouseModel" "load" "[I" ∈ lwG := lwG_of (mt_5 (List.mem_of_getElem? (i := 136) (by decide +kernel))) rfl
theorem kX12_63 {a : Cond} : Cond.fieldLink RX12 63 "TinHouseModel" "load" "[I" ∈ a :: lwG := List.mem_cons_of_mem _ w_5_136
theorem w_5_137 : Cond.fieldLink RX12 66 "TinHouseModel" "lead" "[I" ∈ lwG := lwG_of (mt_5 (List.mem_of_getElem? (i := 137) (by decide +kernel))) rfl
theorem kX12_66 {a : Cond} : Cond.fieldLink RX12 66 "TinHouseModel" "lead" "[I" ∈ a :: lwG := List.mem_cons_of_mem _ w_5_137
theorem w_5_138 : Cond.fieldLink RX12 69 "TinHouseModel" "bestLead" "[I" ∈ lwG := lwG_of (mt_5 (List.mem_of_getElem? (i := 138) (by decide +kernel))) rfl
theorem kX12_69 {a : Cond} : Cond.fieldLink RX12 69 "TinHouseModel" "bestLead" "[I" ∈ a :: lwG := List.mem_cons_of_mem _ w_5_138
theorem w_5_139 : Cond.fieldLink RX12 72 "TinHouseModel" "silve\x72" "[J" ∈ lwG := lwG_of (mt_5 (List.mem_of_getElem? (i := 139) (by decide +kernel))) rfl
theorem kX12_72 {a : Cond} : Cond.fieldLink RX12 72 "TinHouseModel" "silve\x72" "[J" ∈ a :: lwG := List.mem_cons_of_mem _ w_5_139
theorem w_5_119 : Cond.fieldLink RX12 75 "TinHouseModel" "below" "J" ∈ lwG := lwG_of (mt_5 (List.mem_of_getElem? (i := 119) (by decide +kernel))) rfl
theorem kX12_75 {a : Cond} : Cond.fieldLink RX12 75 "TinHouseModel" "below" "J" ∈ a :: lwG := List.mem_cons_of_mem _ w_5_119
theorem w_5_120 : Cond.fieldLink RX12 94 "TinHouseModel" "steps" "I" ∈ lwG := lwG_of (mt_5 (List.mem_of_getElem? (i := 120) (by decide +kernel))) rfl
theorem kX12_94 {a : Cond} : Cond.fieldLink RX12 94 "TinHouseModel" "steps" "I" ∈ a :: lwG := List.mem_cons_of_mem _ w_5_120
theorem w_5_123 : Cond.fieldLink RX12 98 "TinHouseModel" "waiting" "I" ∈ lwG := lwG_of (mt_5 (List.mem_of_getElem? (i := 123) (by decide +kernel))) rfl
theorem kX12_98 {a : Cond} : Cond.fieldLink RX12 98 "TinHouseModel" "waiting" "I" ∈ a :: lwG := List.mem_cons_of_mem _ w_5_123
theorem w_5_118 : Cond.fieldLink RX12 227 "TinHouseModel" "above" "J" ∈ lwG := lwG_of (mt_5 (List.mem_of_getElem? (i := 118) (by decide +kernel))) rfl
theorem kX12_227 {a : Cond} : Cond.fieldLink RX12 227 "TinHouseModel" "above" "J" ∈ a :: lwG := List.mem_cons_of_mem _ w_5_118
theorem w_2_3 : Cond.fieldLink RX2 9 "TinHouse$Ledge\x72" "paid" "[J" ∈ lwG := lwG_of (mt_2 (List.mem_of_getElem? (i := 3) (by decide +kernel))) rfl
theorem kX2_9 {a : Cond} : Cond.fieldLink RX2 9 "TinHouse$Ledge\x72" "paid" "[J" ∈ a :: lwG := List.mem_cons_of_mem _ w_2_3
theorem w_2_1 : Cond.fieldLink RX2 15 "TinHouse$Ledge\x72" "house" "LTinHouse$House;" ∈ lwG := lwG_of (mt_2 (List.mem_of_getElem? (i := 1) (by decide +kernel))) rfl
theorem kX2_15 {a : Cond} : Cond.fieldLink RX2 15 "TinHouse$Ledge\x72" "house" "LTinHouse$House;" ∈ a :: lwG := List.mem_cons_of_mem _ w_2_1
theorem w_2_2 : Cond.fieldLink RX2 19 "TinHouse$Ledge\x72" "law" "LTinHouse$Law;" ∈ lwG := lwG_of (mt_2 (List.mem_of_getElem? (i := 2) (by decide +kernel))) rfl
theorem kX2_19 {a : Cond} : Cond.fieldLink RX2 19 "TinHouse$Ledge\x72" "law" "LTinHouse$Law;" ∈ a :: lwG := List.mem_cons_of_mem _ w_2_2
theorem w_1_94 : Cond.fieldLink RX2 23 "TinHouse$House" "debts" "LTinHouse$Table;" ∈ lwG := lwG_of (mt_1 (List.mem_of_getElem? (i := 94) (by decide +kernel))) rfl
theorem kX2_23 {a : Cond} : Cond.fieldLink RX2 23 "TinHouse$House" "debts" "LTinHouse$Table;" ∈ a :: lwG := List.mem_cons_of_mem _ w_1_94
theorem w_1_85 : Cond.fieldLink RX2 38 "TinHouse$House" "merchants" "LTinHouse$Table;" ∈ lwG := lwG_of (mt_1 (List.mem_of_getElem? (i := 85) (by decide +kernel))) rfl
theorem kX2_38 {a : Cond} : Cond.fieldLink RX2 38 "TinHouse$House" "merchants" "LTinHouse$Table;" ∈ a :: lwG := List.mem_cons_of_mem _ w_1_85
theorem w_1_98 : Cond.fieldLink RX2 74 "TinHouse$House" "payments" "LTinHouse$Table;" ∈ lwG := lwG_of (mt_1 (List.mem_of_getElem? (i := 98) (by decide +kernel))) rfl
theorem kX2_74 {a : Cond} : Cond.fieldLink RX2 74 "TinHouse$House" "payments" "LTinHouse$Table;" ∈ a :: lwG := List.mem_cons_of_mem _ w_1_98
theorem w_1_53 : Cond.fieldLink RX2 77 "TinHouse$Table" "rows" "I" ∈ lwG := lwG_of (mt_1 (List.mem_of_getElem? (i := 53) (by decide +kernel))) rfl
theorem kX2_77 {a : Cond} : Cond.fieldLink RX2 77 "TinHouse$Table" "rows" "I" ∈ a :: lwG := List.mem_cons_of_mem _ w_1_53
theorem w_1_101 : Cond.fieldLink RX2 81 "TinHouse$House" "purses" "LTinHouse$Table;" ∈ lwG := lwG_of (mt_1 (List.mem_of_getElem? (i := 101) (by decide +kernel))) rfl
theorem kX2_81 {a : Cond} : Cond.fieldLink RX2 81 "TinHouse$House" "purses" "LTinHouse$Table;" ∈ a :: lwG := List.mem_cons_of_mem _ w_1_101
theorem w_2_97 : Cond.fieldLink RX3 9 "TinHouse$Men" "alike" "[I" ∈ lwG := lwG_of (mt_2 (List.mem_of_getElem? (i := 97) (by decide +kernel))) rfl
theorem kX3_9 {a : Cond} : Cond.fieldLink RX3 9 "TinHouse$Men" "alike" "[I" ∈ a :: lwG := List.mem_cons_of_mem _ w_2_97
theorem w_2_98 : Cond.fieldLink RX3 15 "TinHouse$Men" "members" "[I" ∈ lwG := lwG_of (mt_2 (List.mem_of_getElem? (i := 98) (by decide +kernel))) rfl
theorem kX3_15 {a : Cond} : Cond.fieldLink RX3 15 "TinHouse$Men" "members" "[I" ∈ a :: lwG := List.mem_cons_of_mem _ w_2_98
theorem w_2_99 : Cond.fieldLink RX3 18 "TinHouse$Men" "least" "[I" ∈ lwG := lwG_of (mt_2 (List.mem_of_getElem? (i := 99) (by decide +kernel))) rfl
theorem kX3_18 {a : Cond} : Cond.fieldLink RX3 18 "TinHouse$Men" "least" "[I" ∈ a :: lwG := List.mem_cons_of_mem _ w_2_99
theorem w_2_96 : Cond.fieldLink RX3 21 "TinHouse$Men" "house" "LTinHouse$House;" ∈ lwG := lwG_of (mt_2 (List.mem_of_getElem? (i := 96) (by decide +kernel))) rfl
theorem kX3_21 {a : Cond} : Cond.fieldLink RX3 21 "TinHouse$Men" "house" "LTinHouse$House;" ∈ a :: lwG := List.mem_cons_of_mem _ w_2_96
theorem w_1_116 : Cond.fieldLink RX3 38 "TinHouse$House" "mentions" "LTinHouse$Table;" ∈ lwG := lwG_of (mt_1 (List.mem_of_getElem? (i := 116) (by decide +kernel))) rfl
theorem kX3_38 {a : Cond} : Cond.fieldLink RX3 38 "TinHouse$House" "mentions" "LTinHouse$Table;" ∈ a :: lwG := List.mem_cons_of_mem _ w_1_116
theorem w_1_54 : Cond.fieldLink RX3 44 "TinHouse$Table" "rows" "I" ∈ lwG := lwG_of (mt_1 (List.mem_of_getElem? (i := 54) (by decide +kernel))) rfl
theorem kX3_44 {a : Cond} : Cond.fieldLink RX3 44 "TinHouse$Table" "rows" "I" ∈ a :: lwG := List.mem_cons_of_mem _ w_1_54
theorem w_2_19 : Cond.fieldLink RX4 9 "TinHouse$Nets" "balances" "[J" ∈ lwG := lwG_of (mt_2 (List.mem_of_getElem? (i := 19) (by decide +kernel))) rfl
theorem kX4_9 {a : Cond} : Cond.fieldLink RX4 9 "TinHouse$Nets" "balances" "[J" ∈ a :: lwG := List.mem_cons_of_mem _ w_2_19
theorem w_2_20 : Cond.fieldLink RX4 15 "TinHouse$Nets" "pairs" "[J" ∈ lwG := lwG_of (mt_2 (List.mem_of_getElem? (i := 20) (by decide +kernel))) rfl
theorem kX4_15 {a : Cond} : Cond.fieldLink RX4 15 "TinHouse$Nets" "pairs" "[J" ∈ a :: lwG := List.mem_cons_of_mem _ w_2_20
theorem w_2_21 : Cond.fieldLink RX4 18 "TinHouse$Nets" "uneven" "[J" ∈ lwG := lwG_of (mt_2 (List.mem_of_getElem? (i := 21) (by decide +kernel))) rfl
theorem kX4_18 {a : Cond} : Cond.fieldLink RX4 18 "TinHouse$Nets" "uneven" "[J" ∈ a :: lwG := List.mem_cons_of_mem _ w_2_21
theorem w_2_22 : Cond.fieldLink RX4 21 "TinHouse$Nets" "sums" "[J" ∈ lwG := lwG_of (mt_2 (List.mem_of_getElem? (i := 22) (by decide +kernel))) rfl
theorem kX4_21 {a : Cond} : Cond.fieldLink RX4 21 "TinHouse$Nets" "sums" "[J" ∈ a :: lwG := List.mem_cons_of_mem _ w_2_22
theorem w_2_23 : Cond.fieldLink RX4 24 "TinHouse$Nets" "sets" "[I" ∈ lwG := lwG_of (mt_2 (List.mem_of_getElem? (i := 23) (by decide +kernel))) rfl
theorem kX4_24 {a : Cond} : Cond.fieldLink RX4 24 "TinHouse$Nets" "sets" "[I" ∈ a :: lwG := List.mem_cons_of_mem _ w_2_23
theorem w_2_24 : Cond.fieldLink RX4 28 "TinHouse$Nets" "steps" "[I" ∈ lwG := lwG_of (mt_2 (List.mem_of_getElem? (i := 24) (by decide +kernel))) rfl
theorem kX4_28 {a : Cond} : Cond.fieldLink RX4 28 "TinHouse$Nets" "steps" "[I" ∈ a :: lwG := List.mem_cons_of_mem _ w_2_24
theorem w_2_25 : Cond.fieldLink RX4 31 "TinHouse$Nets" "ring" "[I" ∈ lwG := lwG_of (mt_2 (List.mem_of_getElem? (i := 25) (by decide +kernel))) rfl
theorem kX4_31 {a : Cond} : Cond.fieldLink RX4 31 "TinHouse$Nets" "ring" "[I" ∈ a :: lwG := List.mem_cons_of_mem _ w_2_25
theorem w_2_17 : Cond.fieldLink RX4 34 "TinHouse$Nets" "house" "LTinHouse$House;" ∈ lwG := lwG_of (mt_2 (List.mem_of_getElem? (i := 17) (by decide +kernel))) rfl
theorem kX4_34 {a : Cond} : Cond.fieldLink RX4 34 "TinHouse$Nets" "house" "LTinHouse$House;" ∈ a :: lwG := List.mem_cons_of_mem _ w_2_17
theorem w_2_18 : Cond.fieldLink RX4 38 "TinHouse$Nets" "ledge\x72" "LTinHouse$Ledger;" ∈ lwG := lwG_of (mt_2 (List.mem_of_getElem? (i := 18) (by decide +kernel))) rfl
theorem kX4_38 {a : Cond} : Cond.fieldLink RX4 38 "TinHouse$Nets" "ledge\x72" "LTinHouse$Ledger;" ∈ a :: lwG := List.mem_cons_of_mem _ w_2_18
theorem w_1_95 : Cond.fieldLink RX4 48 "TinHouse$House" "debts" "LTinHouse$Table;" ∈ lwG := lwG_of (mt_1 (List.mem_of_getElem? (i := 95) (by decide +kernel))) rfl
theorem kX4_48 {a : Cond} : Cond.fieldLink RX4 48 "TinHouse$House" "debts" "LTinHouse$Table;" ∈ a :: lwG := List.mem_cons_of_mem _ w_1_95
theorem w_1_48 : Cond.fieldLink RX4 54 "TinHouse$Table" "rows" "I" ∈ lwG := lwG_of (mt_1 (List.mem_of_getElem? (i := 48) (by decide +kernel))) rfl
theorem kX4_54 {a : Cond} : Cond.fieldLink RX4 54 "TinHouse$Table" "rows" "I" ∈ a :: lwG := List.mem_cons_of_mem _ w_1_48
theorem w_1_86 : Cond.fieldLink RX4 90 "TinHouse$House" "merchants" "LTinHouse$Table;" ∈ lwG := lwG_of (mt_1 (List.mem_of_getElem? (i := 86) (by decide +kernel))) rfl
theorem kX4_90 {a : Cond} : Cond.fieldLink RX4 90 "TinHouse$House" "merchants" "LTinHouse$Table;" ∈ a :: lwG := List.mem_cons_of_mem _ w_1_86
theorem w_2_121 : Cond.fieldLink RX5 9 "TinHouse$Planne\x72" "silve\x72" "[J" ∈ lwG := lwG_of (mt_2 (List.mem_of_getElem? (i := 121) (by decide +kernel))) rfl
theorem kX5_9 {a : Cond} : Cond.fieldLink RX5 9 "TinHouse$Planne\x72" "silve\x72" "[J" ∈ a :: lwG := List.mem_cons_of_mem _ w_2_121
theorem w_2_119 : Cond.fieldLink RX5 15 "TinHouse$Planne\x72" "house" "LTinHouse$House;" ∈ lwG := lwG_of (mt_2 (List.mem_of_getElem? (i := 119) (by decide +kernel))) rfl
theorem kX5_15 {a : Cond} : Cond.fieldLink RX5 15 "TinHouse$Planne\x72" "house" "LTinHouse$House;" ∈ a :: lwG := List.mem_cons_of_mem _ w_2_119
theorem w_2_120 : Cond.fieldLink RX5 19 "TinHouse$Planne\x72" "ways" "LTinHouse$Ways;" ∈ lwG := lwG_of (mt_2 (List.mem_of_getElem? (i := 120) (by decide +kernel))) rfl
theorem kX5_19 {a : Cond} : Cond.fieldLink RX5 19 "TinHouse$Planne\x72" "ways" "LTinHouse$Ways;" ∈ a :: lwG := List.mem_cons_of_mem _ w_2_120
theorem w_1_119 : Cond.fieldLink RX5 23 "TinHouse$House" "loads" "LTinHouse$Table;" ∈ lwG := lwG_of (mt_1 (List.mem_of_getElem? (i := 119) (by decide +kernel))) rfl
theorem kX5_23 {a : Cond} : Cond.fieldLink RX5 23 "TinHouse$House" "loads" "LTinHouse$Table;" ∈ a :: lwG := List.mem_cons_of_mem _ w_1_119
theorem w_1_46 : Cond.fieldLink RX5 29 "TinHouse$Table" "rows" "I" ∈ lwG := lwG_of (mt_1 (List.mem_of_getElem? (i := 46) (by decide +kernel))) rfl
theorem kX5_29 {a : Cond} : Cond.fieldLink RX5 29 "TinHouse$Table" "rows" "I" ∈ a :: lwG := List.mem_cons_of_mem _ w_1_46
theorem w_1_122 : Cond.fieldLink RX5 53 "TinHouse$House" "prices" "LTinHouse$Table;" ∈ lwG := lwG_of (mt_1 (List.mem_of_getElem? (i := 122) (by decide +kernel))) rfl
theorem kX5_53 {a : Cond} : Cond.fieldLink RX5 53 "TinHouse$House" "prices" "LTinHouse$Table;" ∈ a :: lwG := List.mem_cons_of_mem _ w_1_122
theorem w_2_117 : Cond.fieldLink RX5 58 "TinHouse$Planne\x72" "bestPlan" "I" ∈ lwG := lwG_of (mt_2 (List.mem_of_getElem? (i := 117) (by decide +kernel))) rfl
theorem kX5_58 {a : Cond} : Cond.fieldLink RX5 58 "TinHouse$Planne\x72" "bestPlan" "I" ∈ a :: lwG := List.mem_cons_of_mem _ w_2_117
theorem w_2_115 : Cond.fieldLink RX5 65 "TinHouse$Planne\x72" "best" "J" ∈ lwG := lwG_of (mt_2 (List.mem_of_getElem? (i := 115) (by decide +kernel))) rfl
theorem kX5_65 {a : Cond} : Cond.fieldLink RX5 65 "TinHouse$Planne\x72" "best" "J" ∈ a :: lwG := List.mem_cons_of_mem _ w_2_115
theorem w_2_84 : Cond.fieldLink RX6 9 "TinHouse$Post" "carried" "[I" ∈ lwG := lwG_of (mt_2 (List.mem_of_getElem? (i := 84) (by decide +kernel))) rfl
theorem kX6_9 {a : Cond} : Cond.fieldLink RX6 9 "TinHouse$Post" "carried" "[I" ∈ a :: lwG := List.mem_cons_of_mem _ w_2_84
theorem w_2_83 : Cond.fieldLink RX6 15 "TinHouse$Post" "house" "LTinHouse$House;" ∈ lwG := lwG_of (mt_2 (List.mem_of_getElem? (i := 83) (by decide +kernel))) rfl
theorem kX6_15 {a : Cond} : Cond.fieldLink RX6 15 "TinHouse$Post" "house" "LTinHouse$House;" ∈ a :: lwG := List.mem_cons_of_mem _ w_2_83
theorem w_1_113 : Cond.fieldLink RX6 25 "TinHouse$House" "letters" "LTinHouse$Table;" ∈ lwG := lwG_of (mt_1 (List.mem_of_getElem? (i := 113) (by decide +kernel))) rfl
theorem kX6_25 {a : Cond} : Cond.fieldLink RX6 25 "TinHouse$House" "letters" "LTinHouse$Table;" ∈ a :: lwG := List.mem_cons_of_mem _ w_1_113
theorem w_1_50 : Cond.fieldLink RX6 31 "TinHouse$Table" "rows" "I" ∈ lwG := lwG_of (mt_1 (List.mem_of_getElem? (i := 50) (by decide +kernel))) rfl
theorem kX6_31 {a : Cond} : Cond.fieldLink RX6 31 "TinHouse$Table" "rows" "I" ∈ a :: lwG := List.mem_cons_of_mem _ w_1_50
theorem w_1_168 : Cond.fieldLink RX7 9 "TinHouse$Reade\x72" "codes" "[I" ∈ lwG := lwG_of (mt_1 (List.mem_of_getElem? (i := 168) (by decide +kernel))) rfl
theorem kX7_9 {a : Cond} : Cond.fieldLink RX7 9 "TinHouse$Reade\x72" "codes" "[I" ∈ a :: lwG := List.mem_cons_of_mem _ w_1_168
theorem w_1_174 : Cond.fieldLink RX7 15 "TinHouse$Reade\x72" "waiting" "[I" ∈ lwG := lwG_of (mt_1 (List.mem_of_getElem? (i := 174) (by decide +kernel))) rfl
theorem kX7_15 {a : Cond} : Cond.fieldLink RX7 15 "TinHouse$Reade\x72" "waiting" "[I" ∈ a :: lwG := List.mem_cons_of_mem _ w_1_174
theorem w_1_171 : Cond.fieldLink RX7 18 "TinHouse$Reade\x72" "count" "I" ∈ lwG := lwG_of (mt_1 (List.mem_of_getElem? (i := 171) (by decide +kernel))) rfl
theorem kX7_18 {a : Cond} : Cond.fieldLink RX7 18 "TinHouse$Reade\x72" "count" "I" ∈ a :: lwG := List.mem_cons_of_mem _ w_1_171
theorem w_1_175 : Cond.fieldLink RX7 22 "TinHouse$Reade\x72" "waits" "I" ∈ lwG := lwG_of (mt_1 (List.mem_of_getElem? (i := 175) (by decide +kernel))) rfl
theorem kX7_22 {a : Cond} : Cond.fieldLink RX7 22 "TinHouse$Reade\x72" "waits" "I" ∈ a :: lwG := List.mem_cons_of_mem _ w_1_175
theorem w_1_176 : Cond.fieldLink RX7 25 "TinHouse$Reade\x72" "open" "I" ∈ lwG := lwG_of (mt_1 (List.mem_of_getElem? (i := 176) (by decide +kernel))) rfl
theorem kX7_25 {a : Cond} : Cond.fieldLink RX7 25 "TinHouse$Reade\x72" "open" "I" ∈ a :: lwG := List.mem_cons_of_mem _ w_1_176
theorem w_1_177 : Cond.fieldLink RX7 28 "TinHouse$Reade\x72" "unitIsDue" "Z" ∈ lwG := lwG_of (mt_1 (List.mem_of_getElem? (i := 177) (by decide +kernel))) rfl
theorem kX7_28 {a : Cond} : Cond.fieldLink RX7 28 "TinHouse$Reade\x72" "unitIsDue" "Z" ∈ a :: lwG := List.mem_cons_of_mem _ w_1_177
theorem w_1_178 : Cond.fieldLink RX7 32 "TinHouse$Reade\x72" "digits" "I" ∈ lwG := lwG_of (mt_1 (List.mem_of_getElem? (i := 178) (by decide +kernel))) rfl
theorem kX7_32 {a : Cond} : Cond.fieldLink RX7 32 "TinHouse$Reade\x72" "digits" "I" ∈ a :: lwG := List.mem_cons_of_mem _ w_1_178
theorem w_1_181 : Cond.fieldLink RX7 35 "TinHouse$Reade\x72" "fault" "I" ∈ lwG := lwG_of (mt_1 (List.mem_of_getElem? (i := 181) (by decide +kernel))) rfl
theorem kX7_35 {a : Cond} : Cond.fieldLink RX7 35 "TinHouse$Reade\x72" "fault" "I" ∈ a :: lwG := List.mem_cons_of_mem _ w_1_181
theorem w_1_179 : Cond.fieldLink RX7 64 "TinHouse$Reade\x72" "firstDigit" "I" ∈ lwG := lwG_of (mt_1 (List.mem_of_getElem? (i := 179) (by decide +kernel))) rfl
theorem kX7_64 {a : Cond} : Cond.fieldLink RX7 64 "TinHouse$Reade\x72" "firstDigit" "I" ∈ a :: lwG := List.mem_cons_of_mem _ w_1_179
theorem w_1_180 : Cond.fieldLink RX7 67 "TinHouse$Reade\x72" "numbe\x72" "I" ∈ lwG := lwG_of (mt_1 (List.mem_of_getElem? (i := 180) (by decide +kernel))) rfl
theorem kX7_67 {a : Cond} : Cond.fieldLink RX7 67 "TinHouse$Reade\x72" "numbe\x72" "I" ∈ a :: lwG := List.mem_cons_of_mem _ w_1_180
theorem w_1_42 : Cond.fieldLink RX8 9 "TinHouse$Table" "limit" "I" ∈ lwG := lwG_of (mt_1 (List.mem_of_getElem? (i := 42) (by decide +kernel))) rfl
theorem kX8_9 {a : Cond} : Cond.fieldLink RX8 9 "TinHouse$Table" "limit" "I" ∈ a :: lwG := List.mem_cons_of_mem _ w_1_42
theorem w_1_41 : Cond.fieldLink RX8 15 "TinHouse$Table" "width" "I" ∈ lwG := lwG_of (mt_1 (List.mem_of_getElem? (i := 41) (by decide +kernel))) rfl
theorem kX8_15 {a : Cond} : Cond.fieldLink RX8 15 "TinHouse$Table" "width" "I" ∈ a :: lwG := List.mem_cons_of_mem _ w_1_41
theorem w_1_43 : Cond.fieldLink RX8 24 "TinHouse$Table" "cells" "[I" ∈ lwG := lwG_of (mt_1 (List.mem_of_getElem? (i := 43) (by decide +kernel))) rfl
theorem kX8_24 {a : Cond} : Cond.fieldLink RX8 24 "TinHouse$Table" "cells" "[I" ∈ a :: lwG := List.mem_cons_of_mem _ w_1_43
theorem w_1_45 : Cond.fieldLink RX8 28 "TinHouse$Table" "rows" "I" ∈ lwG := lwG_of (mt_1 (List.mem_of_getElem? (i := 45) (by decide +kernel))) rfl
theorem kX8_28 {a : Cond} : Cond.fieldLink RX8 28 "TinHouse$Table" "rows" "I" ∈ a :: lwG := List.mem_cons_of_mem _ w_1_45
theorem w_2_51 : Cond.fieldLink RX9 9 "TinHouse$Ways" "house" "LTinHouse$House;" ∈ lwG := lwG_of (mt_2 (List.mem_of_getElem? (i := 51) (by decide +kernel))) rfl
theorem kX9_9 {a : Cond} : Cond.fieldLink RX9 9 "TinHouse$Ways" "house" "LTinHouse$House;" ∈ a :: lwG := List.mem_cons_of_mem _ w_2_51
theorem w_2_52 : Cond.fieldLink RX9 15 "TinHouse$Ways" "law" "LTinHouse$Law;" ∈ lwG := lwG_of (mt_2 (List.mem_of_getElem? (i := 52) (by decide +kernel))) rfl
theorem kX9_15 {a : Cond} : Cond.fieldLink RX9 15 "TinHouse$Ways" "law" "LTinHouse$Law;" ∈ a :: lwG := List.mem_cons_of_mem _ w_2_52
theorem w_1_83 : Cond.fieldLink RX9 19 "TinHouse$House" "merchants" "LTinHouse$Table;" ∈ lwG := lwG_of (mt_1 (List.mem_of_getElem? (i := 83) (by decide +kernel))) rfl
theorem kX9_19 {a : Cond} : Cond.fieldLink RX9 19 "TinHouse$House" "merchants" "LTinHouse$Table;" ∈ a :: lwG := List.mem_cons_of_mem _ w_1_83
theorem w_1_104 : Cond.fieldLink RX9 31 "TinHouse$House" "gates" "LTinHouse$Table;" ∈ lwG := lwG_of (mt_1 (List.mem_of_getElem? (i := 104) (by decide +kernel))) rfl
theorem kX9_31 {a : Cond} : Cond.fieldLink RX9 31 "TinHouse$House" "gates" "LTinHouse$Table;" ∈ a :: lwG := List.mem_cons_of_mem _ w_1_104
theorem w_1_49 : Cond.fieldLink RX9 34 "TinHouse$Table" "rows" "I" ∈ lwG := lwG_of (mt_1 (List.mem_of_getElem? (i := 49) (by decide +kernel))) rfl
theorem kX9_34 {a : Cond} : Cond.fieldLink RX9 34 "TinHouse$Table" "rows" "I" ∈ a :: lwG := List.mem_cons_of_mem _ w_1_49
theorem w_1_125 : Cond.fieldLink RX9 46 "TinHouse$House" "narrow" "I" ∈ lwG := lwG_of (mt_1 (List.mem_of_getElem? (i := 125) (by decide +kernel))) rfl
theorem kX9_46 {a : Cond} : Cond.fieldLink RX9 46 "TinHouse$House" "narrow" "I" ∈ a :: lwG := List.mem_cons_of_mem _ w_1_125
theorem w_1_107 : Cond.fieldLink RX9 49 "TinHouse$House" "stones" "LTinHouse$Table;" ∈ lwG := lwG_of (mt_1 (List.mem_of_getElem? (i := 107) (by decide +kernel))) rfl
theorem kX9_49 {a : Cond} : Cond.fieldLink RX9 49 "TinHouse$House" "stones" "LTinHouse$Table;" ∈ a :: lwG := List.mem_cons_of_mem _ w_1_107
theorem w_7_97 : Cond.constantLong RL 31 (4294967295) ∈ lwG := lwG_of (mt_7 (List.mem_of_getElem? (i := 97) (by decide +kernel))) rfl
theorem kL_31 {a : Cond} : Cond.constantLong RL 31 (4294967295) ∈ a :: lwG := List.mem_cons_of_mem _ w_7_97
theorem w_5_108 : Cond.constantLong RX0 81 (31) ∈ lwG := lwG_of (mt_5 (List.mem_of_getElem? (i := 108) (by decide +kernel))) rfl
theorem kX0_81 {a : Cond} : Cond.constantLong RX0 81 (31) ∈ a :: lwG := List.mem_cons_of_mem _ w_5_108
theorem w_3_30 : Cond.constantLong RX11 135 (-2000000000000000000) ∈ lwG := lwG_of (mt_3 (List.mem_of_getElem? (i := 30) (by decide +kernel))) rfl
theorem kX11_135 {a : Cond} : Cond.constantLong RX11 135 (-2000000000000000000) ∈ a :: lwG := List.mem_cons_of_mem _ w_3_30
theorem w_3_31 : Cond.constantLong RX11 137 (-3000000000000000000) ∈ lwG := lwG_of (mt_3 (List.mem_of_getElem? (i := 31) (by decide +kernel))) rfl
theorem kX11_137 {a : Cond} : Cond.constantLong RX11 137 (-3000000000000000000) ∈ a :: lwG := List.mem_cons_of_mem _ w_3_31
theorem w_3_102 : Cond.constantLong RX11 178 (-2) ∈ lwG := lwG_of (mt_3 (List.mem_of_getElem? (i := 102) (by decide +kernel))) rfl
theorem kX11_178 {a : Cond} : Cond.constantLong RX11 178 (-2) ∈ a :: lwG := List.mem_cons_of_mem _ w_3_102
theorem w_4_23 : Cond.constantLong RX11 239 (-9000000000000000000) ∈ lwG := lwG_of (mt_4 (List.mem_of_getElem? (i := 23) (by decide +kernel))) rfl
theorem kX11_239 {a : Cond} : Cond.constantLong RX11 239 (-9000000000000000000) ∈ a :: lwG := List.mem_cons_of_mem _ w_4_23
theorem w_5_51 : Cond.constantLong RX11 332 (-1) ∈ lwG := lwG_of (mt_5 (List.mem_of_getElem? (i := 51) (by decide +kernel))) rfl
theorem kX11_332 {a : Cond} : Cond.constantLong RX11 332 (-1) ∈ a :: lwG := List.mem_cons_of_mem _ w_5_51
theorem w_5_84 : Cond.constantLong RX11 340 (379) ∈ lwG := lwG_of (mt_5 (List.mem_of_getElem? (i := 84) (by decide +kernel))) rfl
theorem kX11_340 {a : Cond} : Cond.constantLong RX11 340 (379) ∈ a :: lwG := List.mem_cons_of_mem _ w_5_84
theorem w_5_85 : Cond.constantLong RX11 342 (31) ∈ lwG := lwG_of (mt_5 (List.mem_of_getElem? (i := 85) (by decide +kernel))) rfl
theorem kX11_342 {a : Cond} : Cond.constantLong RX11 342 (31) ∈ a :: lwG := List.mem_cons_of_mem _ w_5_85
theorem w_6_28 : Cond.constantLong RX12 83 (99) ∈ lwG := lwG_of (mt_6 (List.mem_of_getElem? (i := 28) (by decide +kernel))) rfl
theorem kX12_83 {a : Cond} : Cond.constantLong RX12 83 (99) ∈ a :: lwG := List.mem_cons_of_mem _ w_6_28
theorem w_5_196 : Cond.constantLong RX12 89 (4) ∈ lwG := lwG_of (mt_5 (List.mem_of_getElem? (i := 196) (by decide +kernel))) rfl
theorem kX12_89 {a : Cond} : Cond.constantLong RX12 89 (4) ∈ a :: lwG := List.mem_cons_of_mem _ w_5_196
theorem w_6_15 : Cond.constantLong RX12 126 (48) ∈ lwG := lwG_of (mt_6 (List.mem_of_getElem? (i := 15) (by decide +kernel))) rfl
theorem kX12_126 {a : Cond} : Cond.constantLong RX12 126 (48) ∈ a :: lwG := List.mem_cons_of_mem _ w_6_15
theorem w_6_16 : Cond.constantLong RX12 128 (57) ∈ lwG := lwG_of (mt_6 (List.mem_of_getElem? (i := 16) (by decide +kernel))) rfl
theorem kX12_128 {a : Cond} : Cond.constantLong RX12 128 (57) ∈ a :: lwG := List.mem_cons_of_mem _ w_6_16
theorem w_5_211 : Cond.constantLong RX12 137 (3) ∈ lwG := lwG_of (mt_5 (List.mem_of_getElem? (i := 211) (by decide +kernel))) rfl
theorem kX12_137 {a : Cond} : Cond.constantLong RX12 137 (3) ∈ a :: lwG := List.mem_cons_of_mem _ w_5_211
theorem w_5_212 : Cond.constantLong RX12 142 (127) ∈ lwG := lwG_of (mt_5 (List.mem_of_getElem? (i := 212) (by decide +kernel))) rfl
theorem kX12_142 {a : Cond} : Cond.constantLong RX12 142 (127) ∈ a :: lwG := List.mem_cons_of_mem _ w_5_212
theorem w_6_24 : Cond.constantLong RX12 151 (5) ∈ lwG := lwG_of (mt_6 (List.mem_of_getElem? (i := 24) (by decide +kernel))) rfl
theorem kX12_151 {a : Cond} : Cond.constantLong RX12 151 (5) ∈ a :: lwG := List.mem_cons_of_mem _ w_6_24
theorem w_6_29 : Cond.constantLong RX12 156 (-2000000000000000000) ∈ lwG := lwG_of (mt_6 (List.mem_of_getElem? (i := 29) (by decide +kernel))) rfl
theorem kX12_156 {a : Cond} : Cond.constantLong RX12 156 (-2000000000000000000) ∈ a :: lwG := List.mem_cons_of_mem _ w_6_29
theorem w_6_30 : Cond.constantLong RX12 158 (-3000000000000000000) ∈ lwG := lwG_of (mt_6 (List.mem_of_getElem? (i := 30) (by decide +kernel))) rfl
theorem kX12_158 {a : Cond} : Cond.constantLong RX12 158 (-3000000000000000000) ∈ a :: lwG := List.mem_cons_of_mem _ w_6_30
theorem w_6_46 : Cond.constantLong RX12 168 (2) ∈ lwG := lwG_of (mt_6 (List.mem_of_getElem? (i := 46) (by decide +kernel))) rfl
theorem kX12_168 {a : Cond} : Cond.constantLong RX12 168 (2) ∈ a :: lwG := List.mem_cons_of_mem _ w_6_46
theorem w_6_63 : Cond.constantLong RX12 177 (1000000) ∈ lwG := lwG_of (mt_6 (List.mem_of_getElem? (i := 63) (by decide +kernel))) rfl
theorem kX12_177 {a : Cond} : Cond.constantLong RX12 177 (1000000) ∈ a :: lwG := List.mem_cons_of_mem _ w_6_63
theorem w_6_104 : Cond.constantLong RX12 192 (1000) ∈ lwG := lwG_of (mt_6 (List.mem_of_getElem? (i := 104) (by decide +kernel))) rfl
theorem kX12_192 {a : Cond} : Cond.constantLong RX12 192 (1000) ∈ a :: lwG := List.mem_cons_of_mem _ w_6_104
theorem w_6_105 : Cond.constantLong RX12 194 (1000000000000) ∈ lwG := lwG_of (mt_6 (List.mem_of_getElem? (i := 105) (by decide +kernel))) rfl
theorem kX12_194 {a : Cond} : Cond.constantLong RX12 194 (1000000000000) ∈ a :: lwG := List.mem_cons_of_mem _ w_6_105
theorem w_6_106 : Cond.constantLong RX12 200 (-2) ∈ lwG := lwG_of (mt_6 (List.mem_of_getElem? (i := 106) (by decide +kernel))) rfl
theorem kX12_200 {a : Cond} : Cond.constantLong RX12 200 (-2) ∈ a :: lwG := List.mem_cons_of_mem _ w_6_106
theorem w_6_111 : Cond.constantLong RX12 202 (10000) ∈ lwG := lwG_of (mt_6 (List.mem_of_getElem? (i := 111) (by decide +kernel))) rfl
theorem kX12_202 {a : Cond} : Cond.constantLong RX12 202 (10000) ∈ a :: lwG := List.mem_cons_of_mem _ w_6_111
theorem w_6_116 : Cond.constantLong RX12 207 (30) ∈ lwG := lwG_of (mt_6 (List.mem_of_getElem? (i := 116) (by decide +kernel))) rfl
theorem kX12_207 {a : Cond} : Cond.constantLong RX12 207 (30) ∈ a :: lwG := List.mem_cons_of_mem _ w_6_116
theorem w_6_133 : Cond.constantLong RX12 212 (100000000) ∈ lwG := lwG_of (mt_6 (List.mem_of_getElem? (i := 133) (by decide +kernel))) rfl
theorem kX12_212 {a : Cond} : Cond.constantLong RX12 212 (100000000) ∈ a :: lwG := List.mem_cons_of_mem _ w_6_133
theorem w_6_149 : Cond.constantLong RX12 214 (100) ∈ lwG := lwG_of (mt_6 (List.mem_of_getElem? (i := 149) (by decide +kernel))) rfl
theorem kX12_214 {a : Cond} : Cond.constantLong RX12 214 (100) ∈ a :: lwG := List.mem_cons_of_mem _ w_6_149
theorem w_6_185 : Cond.constantLong RX12 237 (-9000000000000000000) ∈ lwG := lwG_of (mt_6 (List.mem_of_getElem? (i := 185) (by decide +kernel))) rfl
theorem kX12_237 {a : Cond} : Cond.constantLong RX12 237 (-9000000000000000000) ∈ a :: lwG := List.mem_cons_of_mem _ w_6_185
theorem w_6_210 : Cond.constantLong RX12 248 (9) ∈ lwG := lwG_of (mt_6 (List.mem_of_getElem? (i := 210) (by decide +kernel))) rfl
theorem kX12_248 {a : Cond} : Cond.constantLong RX12 248 (9) ∈ a :: lwG := List.mem_cons_of_mem _ w_6_210
theorem w_7_9 : Cond.constantLong RX12 266 (9999) ∈ lwG := lwG_of (mt_7 (List.mem_of_getElem? (i := 9) (by decide +kernel))) rfl
theorem kX12_266 {a : Cond} : Cond.constantLong RX12 266 (9999) ∈ a :: lwG := List.mem_cons_of_mem _ w_7_9
theorem w_7_10 : Cond.constantLong RX12 268 (-1) ∈ lwG := lwG_of (mt_7 (List.mem_of_getElem? (i := 10) (by decide +kernel))) rfl
theorem kX12_268 {a : Cond} : Cond.constantLong RX12 268 (-1) ∈ a :: lwG := List.mem_cons_of_mem _ w_7_10
theorem w_7_11 : Cond.constantLong RX12 270 (7) ∈ lwG := lwG_of (mt_7 (List.mem_of_getElem? (i := 11) (by decide +kernel))) rfl
theorem kX12_270 {a : Cond} : Cond.constantLong RX12 270 (7) ∈ a :: lwG := List.mem_cons_of_mem _ w_7_11
theorem w_7_48 : Cond.constantLong RX12 278 (-40) ∈ lwG := lwG_of (mt_7 (List.mem_of_getElem? (i := 48) (by decide +kernel))) rfl
theorem kX12_278 {a : Cond} : Cond.constantLong RX12 278 (-40) ∈ a :: lwG := List.mem_cons_of_mem _ w_7_48
theorem w_7_49 : Cond.constantLong RX12 280 (40) ∈ lwG := lwG_of (mt_7 (List.mem_of_getElem? (i := 49) (by decide +kernel))) rfl
theorem kX12_280 {a : Cond} : Cond.constantLong RX12 280 (40) ∈ a :: lwG := List.mem_cons_of_mem _ w_7_49
theorem w_7_86 : Cond.constantLong RX12 294 (10) ∈ lwG := lwG_of (mt_7 (List.mem_of_getElem? (i := 86) (by decide +kernel))) rfl
theorem kX12_294 {a : Cond} : Cond.constantLong RX12 294 (10) ∈ a :: lwG := List.mem_cons_of_mem _ w_7_86
theorem w_7_96 : Cond.constantLong RX12 296 (31) ∈ lwG := lwG_of (mt_7 (List.mem_of_getElem? (i := 96) (by decide +kernel))) rfl
theorem kX12_296 {a : Cond} : Cond.constantLong RX12 296 (31) ∈ a :: lwG := List.mem_cons_of_mem _ w_7_96
theorem w_7_91 : Cond.constantLong RX12 298 (379) ∈ lwG := lwG_of (mt_7 (List.mem_of_getElem? (i := 91) (by decide +kernel))) rfl
theorem kX12_298 {a : Cond} : Cond.constantLong RX12 298 (379) ∈ a :: lwG := List.mem_cons_of_mem _ w_7_91
theorem w_3_144 : Cond.constantLong RX2 64 (1000000000000) ∈ lwG := lwG_of (mt_3 (List.mem_of_getElem? (i := 144) (by decide +kernel))) rfl
theorem kX2_64 {a : Cond} : Cond.constantLong RX2 64 (1000000000000) ∈ a :: lwG := List.mem_cons_of_mem _ w_3_144
theorem w_3_145 : Cond.constantLong RX2 66 (1000) ∈ lwG := lwG_of (mt_3 (List.mem_of_getElem? (i := 145) (by decide +kernel))) rfl
theorem kX2_66 {a : Cond} : Cond.constantLong RX2 66 (1000) ∈ a :: lwG := List.mem_cons_of_mem _ w_3_145
theorem w_3_170 : Cond.constantLong RX2 84 (100) ∈ lwG := lwG_of (mt_3 (List.mem_of_getElem? (i := 170) (by decide +kernel))) rfl
theorem kX2_84 {a : Cond} : Cond.constantLong RX2 84 (100) ∈ a :: lwG := List.mem_cons_of_mem _ w_3_170
theorem w_5_25 : Cond.constantLong RX5 56 (100) ∈ lwG := lwG_of (mt_5 (List.mem_of_getElem? (i := 25) (by decide +kernel))) rfl
theorem kX5_56 {a : Cond} : Cond.constantLong RX5 56 (100) ∈ a :: lwG := List.mem_cons_of_mem _ w_5_25
theorem w_5_98 : Cond.constantLong RX8 58 (31) ∈ lwG := lwG_of (mt_5 (List.mem_of_getElem? (i := 98) (by decide +kernel))) rfl
theorem kX8_58 {a : Cond} : Cond.constantLong RX8 58 (31) ∈ a :: lwG := List.mem_cons_of_mem _ w_5_98
theorem w_3_203 : Cond.constantLong RX9 44 (100) ∈ lwG := lwG_of (mt_3 (List.mem_of_getElem? (i := 203) (by decide +kernel))) rfl
theorem kX9_44 {a : Cond} : Cond.constantLong RX9 44 (100) ∈ a :: lwG := List.mem_cons_of_mem _ w_3_203
theorem w_4_151 : Cond.constant RJ6 265 (1431655765) ∈ lwG := lwG_of (mt_4 (List.mem_of_getElem? (i := 151) (by decide +kernel))) rfl
theorem kJ6_265 {a : Cond} : Cond.constant RJ6 265 (1431655765) ∈ a :: lwG := List.mem_cons_of_mem _ w_4_151
theorem w_4_152 : Cond.constant RJ6 266 (858993459) ∈ lwG := lwG_of (mt_4 (List.mem_of_getElem? (i := 152) (by decide +kernel))) rfl
theorem kJ6_266 {a : Cond} : Cond.constant RJ6 266 (858993459) ∈ a :: lwG := List.mem_cons_of_mem _ w_4_152
theorem w_4_153 : Cond.constant RJ6 267 (252645135) ∈ lwG := lwG_of (mt_4 (List.mem_of_getElem? (i := 153) (by decide +kernel))) rfl
theorem kJ6_267 {a : Cond} : Cond.constant RJ6 267 (252645135) ∈ a :: lwG := List.mem_cons_of_mem _ w_4_153
theorem w_3_81 : Cond.constant RX11 168 (1000000) ∈ lwG := lwG_of (mt_3 (List.mem_of_getElem? (i := 81) (by decide +kernel))) rfl
theorem kX11_168 {a : Cond} : Cond.constant RX11 168 (1000000) ∈ a :: lwG := List.mem_cons_of_mem _ w_3_81
theorem w_3_175 : Cond.constant RX11 198 (100000000) ∈ lwG := lwG_of (mt_3 (List.mem_of_getElem? (i := 175) (by decide +kernel))) rfl
theorem kX11_198 {a : Cond} : Cond.constant RX11 198 (100000000) ∈ a :: lwG := List.mem_cons_of_mem _ w_3_175
def wzX0_init : List Cond := Cond.code yX0_init cX0_init 2 none :: lwG
theorem w_1_30 : Cond.code yX0_init cX0_init 2 none ∈ lwG := lwG_of (mt_1 (List.mem_of_getElem? (i := 30) (by decide +kernel))) rfl
theorem czX0_init : Cond.code yX0_init cX0_init 2 none ∈ lwG := w_1_30
theorem azX0_init : ∀ w ∈ wzX0_init, w ∈ lwG := List.forall_mem_cons.mpr ⟨w_1_30, fun _ h => h⟩
def wzX0_become : List Cond := Cond.code yX0_become cX0_become 2 none :: lwG
theorem w_5_59 : Cond.code yX0_become cX0_become 2 none ∈ lwG := lwG_of (mt_5 (List.mem_of_getElem? (i := 59) (by decide +kernel))) rfl
theorem czX0_become : Cond.code yX0_become cX0_become 2 none ∈ lwG := w_5_59
theorem azX0_become : ∀ w ∈ wzX0_become, w ∈ lwG := List.forall_mem_cons.mpr ⟨w_5_59, fun _ h => h⟩
def wzX0_howMany : List Cond := Cond.code yX0_howMany cX0_howMany 2 (some .int) :: lwG
theorem w_5_79 : Cond.code yX0_howMany cX0_howMany 2 (some .int) ∈ lwG := lwG_of (mt_5 (List.mem_of_getElem? (i := 79) (by decide +kernel))) rfl
theorem czX0_howMany : Cond.code yX0_howMany cX0_howMany 2 (some .int) ∈ lwG := w_5_79
theorem azX0_howMany : ∀ w ∈ wzX0_howMany, w ∈ lwG := List.forall_mem_cons.mpr ⟨w_5_79, fun _ h => h⟩
def wzX0_mixPeople : List Cond := Cond.code yX0_mixPeople cX0_mixPeople 5 (some .long) :: lwG
theorem w_5_89 : Cond.code yX0_mixPeople cX0_mixPeople 5 (some .long) ∈ lwG := lwG_of (mt_5 (List.mem_of_getElem? (i := 89) (by decide +kernel))) rfl
theorem czX0_mixPeople : Cond.code yX0_mixPeople cX0_mixPeople 5 (some .long) ∈ lwG := w_5_89
theorem azX0_mixPeople : ∀ w ∈ wzX0_mixPeople, w ∈ lwG := List.forall_mem_cons.mpr ⟨w_5_89, fun _ h => h⟩
def wzX0_mixTrade : List Cond := Cond.code yX0_mixTrade cX0_mixTrade 5 (some .long) :: lwG
theorem w_5_107 : Cond.code yX0_mixTrade cX0_mixTrade 5 (some .long) ∈ lwG := lwG_of (mt_5 (List.mem_of_getElem? (i := 107) (by decide +kernel))) rfl
theorem czX0_mixTrade : Cond.code yX0_mixTrade cX0_mixTrade 5 (some .long) ∈ lwG := w_5_107
theorem azX0_mixTrade : ∀ w ∈ wzX0_mixTrade, w ∈ lwG := List.forall_mem_cons.mpr ⟨w_5_107, fun _ h => h⟩
def wzX0_kin : List Cond := Cond.code yX0_kin cX0_kin 3 (some .int) :: lwG
theorem w_3_111 : Cond.code yX0_kin cX0_kin 3 (some .int) ∈ lwG := lwG_of (mt_3 (List.mem_of_getElem? (i := 111) (by decide +kernel))) rfl
theorem czX0_kin : Cond.code yX0_kin cX0_kin 3 (some .int) ∈ lwG := w_3_111
theorem azX0_kin : ∀ w ∈ wzX0_kin, w ∈ lwG := List.forall_mem_cons.mpr ⟨w_3_111, fun _ h => h⟩
def wzX1_init : List Cond := Cond.code yX1_init cX1_init 2 none :: lwG
theorem w_1_207 : Cond.code yX1_init cX1_init 2 none ∈ lwG := lwG_of (mt_1 (List.mem_of_getElem? (i := 207) (by decide +kernel))) rfl
theorem czX1_init : Cond.code yX1_init cX1_init 2 none ∈ lwG := w_1_207
theorem azX1_init : ∀ w ∈ wzX1_init, w ∈ lwG := List.forall_mem_cons.mpr ⟨w_1_207, fun _ h => h⟩
def wzX1_inscribe : List Cond := Cond.code yX1_inscribe cX1_inscribe 6 none :: lwG
theorem w_3_62 : Cond.code yX1_inscribe cX1_inscribe 6 none ∈ lwG := lwG_of (mt_3 (List.mem_of_getElem? (i := 62) (by decide +kernel))) rfl
theorem czX1_inscribe : Cond.code yX1_inscribe cX1_inscribe 6 none ∈ lwG := w_3_62
theorem azX1_inscribe : ∀ w ∈ wzX1_inscribe, w ∈ lwG := List.forall_mem_cons.mpr ⟨w_3_62, fun _ h => h⟩
def wzX1_inForce : List Cond := Cond.code yX1_inForce cX1_inForce 7 (some .int) :: lwG
theorem w_3_72 : Cond.code yX1_inForce cX1_inForce 7 (some .int) ∈ lwG := lwG_of (mt_3 (List.mem_of_getElem? (i := 72) (by decide +kernel))) rfl
theorem czX1_inForce : Cond.code yX1_inForce cX1_inForce 7 (some .int) ∈ lwG := w_3_72
theorem azX1_inForce : ∀ w ∈ wzX1_inForce, w ∈ lwG := List.forall_mem_cons.mpr ⟨w_3_72, fun _ h => h⟩
def wzX1_said : List Cond := Cond.code yX1_said cX1_said 12 (some .long) :: lwG
theorem w_3_131 : Cond.code yX1_said cX1_said 12 (some .long) ∈ lwG := lwG_of (mt_3 (List.mem_of_getElem? (i := 131) (by decide +kernel))) rfl
theorem czX1_said : Cond.code yX1_said cX1_said 12 (some .long) ∈ lwG := w_3_131
theorem azX1_said : ∀ w ∈ wzX1_said, w ∈ lwG := List.forall_mem_cons.mpr ⟨w_3_131, fun _ h => h⟩
def wzX1_meet : List Cond := Cond.code yX1_meet cX1_meet 7 none :: lwG
theorem w_3_35 : Cond.code yX1_meet cX1_meet 7 none ∈ lwG := lwG_of (mt_3 (List.mem_of_getElem? (i := 35) (by decide +kernel))) rfl
theorem czX1_meet : Cond.code yX1_meet cX1_meet 7 none ∈ lwG := w_3_35
theorem azX1_meet : ∀ w ∈ wzX1_meet, w ∈ lwG := List.forall_mem_cons.mpr ⟨w_3_35, fun _ h => h⟩
def wzX1_run : List Cond := Cond.code yX1_run cX1_run 6 (some .long) :: lwG
theorem w_3_39 : Cond.code yX1_run cX1_run 6 (some .long) ∈ lwG := lwG_of (mt_3 (List.mem_of_getElem? (i := 39) (by decide +kernel))) rfl
theorem czX1_run : Cond.code yX1_run cX1_run 6 (some .long) ∈ lwG := w_3_39
theorem azX1_run : ∀ w ∈ wzX1_run, w ∈ lwG := List.forall_mem_cons.mpr ⟨w_3_39, fun _ h => h⟩
def wzX1_work : List Cond := Cond.code yX1_work cX1_work 8 none :: lwG
theorem w_3_43 : Cond.code yX1_work cX1_work 8 none ∈ lwG := lwG_of (mt_3 (List.mem_of_getElem? (i := 43) (by decide +kernel))) rfl
theorem czX1_work : Cond.code yX1_work cX1_work 8 none ∈ lwG := w_3_43
theorem azX1_work : ∀ w ∈ wzX1_work, w ∈ lwG := List.forall_mem_cons.mpr ⟨w_3_43, fun _ h => h⟩
def wzX1_joined : List Cond := Cond.code yX1_joined cX1_joined 5 (some .long) :: lwG
theorem w_3_54 : Cond.code yX1_joined cX1_joined 5 (some .long) ∈ lwG := lwG_of (mt_3 (List.mem_of_getElem? (i := 54) (by decide +kernel))) rfl
theorem czX1_joined : Cond.code yX1_joined cX1_joined 5 (some .long) ∈ lwG := w_3_54
theorem azX1_joined : ∀ w ∈ wzX1_joined, w ∈ lwG := List.forall_mem_cons.mpr ⟨w_3_54, fun _ h => h⟩
def wzX1_push : List Cond := Cond.code yX1_push cX1_push 3 none :: lwG
theorem w_3_47 : Cond.code yX1_push cX1_push 3 none ∈ lwG := lwG_of (mt_3 (List.mem_of_getElem? (i := 47) (by decide +kernel))) rfl
theorem czX1_push : Cond.code yX1_push cX1_push 3 none ∈ lwG := w_3_47
theorem azX1_push : ∀ w ∈ wzX1_push, w ∈ lwG := List.forall_mem_cons.mpr ⟨w_3_47, fun _ h => h⟩
def wzX1_pop : List Cond := Cond.code yX1_pop cX1_pop 1 (some .long) :: lwG
theorem w_3_51 : Cond.code yX1_pop cX1_pop 1 (some .long) ∈ lwG := lwG_of (mt_3 (List.mem_of_getElem? (i := 51) (by decide +kernel))) rfl
theorem czX1_pop : Cond.code yX1_pop cX1_pop 1 (some .long) ∈ lwG := w_3_51
theorem azX1_pop : ∀ w ∈ wzX1_pop, w ∈ lwG := List.forall_mem_cons.mpr ⟨w_3_51, fun _ h => h⟩
def wzX2_init : List Cond := Cond.code yX2_init cX2_init 3 none :: lwG
theorem w_1_239 : Cond.code yX2_init cX2_init 3 none ∈ lwG := lwG_of (mt_1 (List.mem_of_getElem? (i := 239) (by decide +kernel))) rfl
theorem czX2_init : Cond.code yX2_init cX2_init 3 none ∈ lwG := w_1_239
theorem azX2_init : ∀ w ∈ wzX2_init, w ∈ lwG := List.forall_mem_cons.mpr ⟨w_1_239, fun _ h => h⟩
def wzX2_left : List Cond := Cond.code yX2_left cX2_left 13 (some .long) :: lwG
theorem w_3_106 : Cond.code yX2_left cX2_left 13 (some .long) ∈ lwG := lwG_of (mt_3 (List.mem_of_getElem? (i := 106) (by decide +kernel))) rfl
theorem czX2_left : Cond.code yX2_left cX2_left 13 (some .long) ∈ lwG := w_3_106
theorem azX2_left : ∀ w ∈ wzX2_left, w ∈ lwG := List.forall_mem_cons.mpr ⟨w_3_106, fun _ h => h⟩
def wzX2_sumLent : List Cond := Cond.code yX2_sumLent cX2_sumLent 6 (some .long) :: lwG
theorem w_3_123 : Cond.code yX2_sumLent cX2_sumLent 6 (some .long) ∈ lwG := lwG_of (mt_3 (List.mem_of_getElem? (i := 123) (by decide +kernel))) rfl
theorem czX2_sumLent : Cond.code yX2_sumLent cX2_sumLent 6 (some .long) ∈ lwG := w_3_123
theorem azX2_sumLent : ∀ w ∈ wzX2_sumLent, w ∈ lwG := List.forall_mem_cons.mpr ⟨w_3_123, fun _ h => h⟩
def wzX2_gather : List Cond := Cond.code yX2_gather cX2_gather 4 none :: lwG
theorem w_3_116 : Cond.code yX2_gather cX2_gather 4 none ∈ lwG := lwG_of (mt_3 (List.mem_of_getElem? (i := 116) (by decide +kernel))) rfl
theorem czX2_gather : Cond.code yX2_gather cX2_gather 4 none ∈ lwG := w_3_116
theorem azX2_gather : ∀ w ∈ wzX2_gather, w ∈ lwG := List.forall_mem_cons.mpr ⟨w_3_116, fun _ h => h⟩
def wzX2_sharesOfAll : List Cond := Cond.code yX2_sharesOfAll cX2_sharesOfAll 4 (some .int) :: lwG
theorem w_3_161 : Cond.code yX2_sharesOfAll cX2_sharesOfAll 4 (some .int) ∈ lwG := lwG_of (mt_3 (List.mem_of_getElem? (i := 161) (by decide +kernel))) rfl
theorem czX2_sharesOfAll : Cond.code yX2_sharesOfAll cX2_sharesOfAll 4 (some .int) ∈ lwG := w_3_161
theorem azX2_sharesOfAll : ∀ w ∈ wzX2_sharesOfAll, w ∈ lwG := List.forall_mem_cons.mpr ⟨w_3_161, fun _ h => h⟩
def wzX2_takenBy : List Cond := Cond.code yX2_takenBy cX2_takenBy 8 (some .int) :: lwG
theorem w_3_169 : Cond.code yX2_takenBy cX2_takenBy 8 (some .int) ∈ lwG := lwG_of (mt_3 (List.mem_of_getElem? (i := 169) (by decide +kernel))) rfl
theorem czX2_takenBy : Cond.code yX2_takenBy cX2_takenBy 8 (some .int) ∈ lwG := w_3_169
theorem azX2_takenBy : ∀ w ∈ wzX2_takenBy, w ∈ lwG := List.forall_mem_cons.mpr ⟨w_3_169, fun _ h => h⟩
def wzX2_partOf : List Cond := Cond.code yX2_partOf cX2_partOf 10 (some .int) :: lwG
theorem w_3_179 : Cond.code yX2_partOf cX2_partOf 10 (some .int) ∈ lwG := lwG_of (mt_3 (List.mem_of_getElem? (i := 179) (by decide +kernel))) rfl
theorem czX2_partOf : Cond.code yX2_partOf cX2_partOf 10 (some .int) ∈ lwG := w_3_179
theorem azX2_partOf : ∀ w ∈ wzX2_partOf, w ∈ lwG := List.forall_mem_cons.mpr ⟨w_3_179, fun _ h => h⟩
def wzX2_byShares : List Cond := Cond.code yX2_byShares cX2_byShares 7 (some .int) :: lwG
theorem w_3_184 : Cond.code yX2_byShares cX2_byShares 7 (some .int) ∈ lwG := lwG_of (mt_3 (List.mem_of_getElem? (i := 184) (by decide +kernel))) rfl
theorem czX2_byShares : Cond.code yX2_byShares cX2_byShares 7 (some .int) ∈ lwG := w_3_184
theorem azX2_byShares : ∀ w ∈ wzX2_byShares, w ∈ lwG := List.forall_mem_cons.mpr ⟨w_3_184, fun _ h => h⟩
def wzX3_init : List Cond := Cond.code yX3_init cX3_init 2 none :: lwG
theorem w_2_94 : Cond.code yX3_init cX3_init 2 none ∈ lwG := lwG_of (mt_2 (List.mem_of_getElem? (i := 94) (by decide +kernel))) rfl
theorem czX3_init : Cond.code yX3_init cX3_init 2 none ∈ lwG := w_2_94
theorem azX3_init : ∀ w ∈ wzX3_init, w ∈ lwG := List.forall_mem_cons.mpr ⟨w_2_94, fun _ h => h⟩
def wzX3_tellApart : List Cond := Cond.code yX3_tellApart cX3_tellApart 2 (some .int) :: lwG
theorem w_4_205 : Cond.code yX3_tellApart cX3_tellApart 2 (some .int) ∈ lwG := lwG_of (mt_4 (List.mem_of_getElem? (i := 205) (by decide +kernel))) rfl
theorem czX3_tellApart : Cond.code yX3_tellApart cX3_tellApart 2 (some .int) ∈ lwG := w_4_205
theorem azX3_tellApart : ∀ w ∈ wzX3_tellApart, w ∈ lwG := List.forall_mem_cons.mpr ⟨w_4_205, fun _ h => h⟩
def wzX3_leastOf : List Cond := Cond.code yX3_leastOf cX3_leastOf 2 (some .int) :: lwG
theorem w_4_238 : Cond.code yX3_leastOf cX3_leastOf 2 (some .int) ∈ lwG := lwG_of (mt_4 (List.mem_of_getElem? (i := 238) (by decide +kernel))) rfl
theorem czX3_leastOf : Cond.code yX3_leastOf cX3_leastOf 2 (some .int) ∈ lwG := w_4_238
theorem azX3_leastOf : ∀ w ∈ wzX3_leastOf, w ∈ lwG := List.forall_mem_cons.mpr ⟨w_4_238, fun _ h => h⟩
def wzX3_compare : List Cond := Cond.code yX3_compare cX3_compare 3 none :: lwG
theorem w_4_209 : Cond.code yX3_compare cX3_compare 3 none ∈ lwG := lwG_of (mt_4 (List.mem_of_getElem? (i := 209) (by decide +kernel))) rfl
theorem czX3_compare : Cond.code yX3_compare cX3_compare 3 none ∈ lwG := w_4_209
theorem azX3_compare : ∀ w ∈ wzX3_compare, w ∈ lwG := List.forall_mem_cons.mpr ⟨w_4_209, fun _ h => h⟩
def wzX3_isOneMan : List Cond := Cond.code yX3_isOneMan cX3_isOneMan 4 (some .boolean) :: lwG
theorem w_4_213 : Cond.code yX3_isOneMan cX3_isOneMan 4 (some .boolean) ∈ lwG := lwG_of (mt_4 (List.mem_of_getElem? (i := 213) (by decide +kernel))) rfl
theorem czX3_isOneMan : Cond.code yX3_isOneMan cX3_isOneMan 4 (some .boolean) ∈ lwG := w_4_213
theorem azX3_isOneMan : ∀ w ∈ wzX3_isOneMan, w ∈ lwG := List.forall_mem_cons.mpr ⟨w_4_213, fun _ h => h⟩
def wzX3_agree : List Cond := Cond.code yX3_agree cX3_agree 6 (some .boolean) :: lwG
theorem w_4_218 : Cond.code yX3_agree cX3_agree 6 (some .boolean) ∈ lwG := lwG_of (mt_4 (List.mem_of_getElem? (i := 218) (by decide +kernel))) rfl
theorem czX3_agree : Cond.code yX3_agree cX3_agree 6 (some .boolean) ∈ lwG := w_4_218
theorem azX3_agree : ∀ w ∈ wzX3_agree, w ∈ lwG := List.forall_mem_cons.mpr ⟨w_4_218, fun _ h => h⟩
def wzX3_settle : List Cond := Cond.code yX3_settle cX3_settle 4 (some .boolean) :: lwG
theorem w_4_226 : Cond.code yX3_settle cX3_settle 4 (some .boolean) ∈ lwG := lwG_of (mt_4 (List.mem_of_getElem? (i := 226) (by decide +kernel))) rfl
theorem czX3_settle : Cond.code yX3_settle cX3_settle 4 (some .boolean) ∈ lwG := w_4_226
theorem azX3_settle : ∀ w ∈ wzX3_settle, w ∈ lwG := List.forall_mem_cons.mpr ⟨w_4_226, fun _ h => h⟩
def wzX3_mayJoin : List Cond := Cond.code yX3_mayJoin cX3_mayJoin 3 (some .boolean) :: lwG
theorem w_4_230 : Cond.code yX3_mayJoin cX3_mayJoin 3 (some .boolean) ∈ lwG := lwG_of (mt_4 (List.mem_of_getElem? (i := 230) (by decide +kernel))) rfl
theorem czX3_mayJoin : Cond.code yX3_mayJoin cX3_mayJoin 3 (some .boolean) ∈ lwG := w_4_230
theorem azX3_mayJoin : ∀ w ∈ wzX3_mayJoin, w ∈ lwG := List.forall_mem_cons.mpr ⟨w_4_230, fun _ h => h⟩
def wzX3_joins : List Cond := Cond.code yX3_joins cX3_joins 4 (some .boolean) :: lwG
theorem w_4_234 : Cond.code yX3_joins cX3_joins 4 (some .boolean) ∈ lwG := lwG_of (mt_4 (List.mem_of_getElem? (i := 234) (by decide +kernel))) rfl
theorem czX3_joins : Cond.code yX3_joins cX3_joins 4 (some .boolean) ∈ lwG := w_4_234
theorem azX3_joins : ∀ w ∈ wzX3_joins, w ∈ lwG := List.forall_mem_cons.mpr ⟨w_4_234, fun _ h => h⟩
def wzX4_init : List Cond := Cond.code yX4_init cX4_init 3 none :: lwG
theorem w_2_15 : Cond.code yX4_init cX4_init 3 none ∈ lwG := lwG_of (mt_2 (List.mem_of_getElem? (i := 15) (by decide +kernel))) rfl
theorem czX4_init : Cond.code yX4_init cX4_init 3 none ∈ lwG := w_2_15
theorem azX4_init : ∀ w ∈ wzX4_init, w ∈ lwG := List.forall_mem_cons.mpr ⟨w_2_15, fun _ h => h⟩
def wzX4_weigh : List Cond := Cond.code yX4_weigh cX4_weigh 8 none :: lwG
theorem w_4_27 : Cond.code yX4_weigh cX4_weigh 8 none ∈ lwG := lwG_of (mt_4 (List.mem_of_getElem? (i := 27) (by decide +kernel))) rfl
theorem czX4_weigh : Cond.code yX4_weigh cX4_weigh 8 none ∈ lwG := w_4_27
theorem azX4_weigh : ∀ w ∈ wzX4_weigh, w ∈ lwG := List.forall_mem_cons.mpr ⟨w_4_27, fun _ h => h⟩
def wzX4_book : List Cond := Cond.code yX4_book cX4_book 4 none :: lwG
theorem w_4_34 : Cond.code yX4_book cX4_book 4 none ∈ lwG := lwG_of (mt_4 (List.mem_of_getElem? (i := 34) (by decide +kernel))) rfl
theorem czX4_book : Cond.code yX4_book cX4_book 4 none ∈ lwG := w_4_34
theorem azX4_book : ∀ w ∈ wzX4_book, w ∈ lwG := List.forall_mem_cons.mpr ⟨w_4_34, fun _ h => h⟩
def wzX4_pairOf : List Cond := Cond.code yX4_pairOf cX4_pairOf 3 (some .int) :: lwG
theorem w_4_37 : Cond.code yX4_pairOf cX4_pairOf 3 (some .int) ∈ lwG := lwG_of (mt_4 (List.mem_of_getElem? (i := 37) (by decide +kernel))) rfl
theorem czX4_pairOf : Cond.code yX4_pairOf cX4_pairOf 3 (some .int) ∈ lwG := w_4_37
theorem azX4_pairOf : ∀ w ∈ wzX4_pairOf, w ∈ lwG := List.forall_mem_cons.mpr ⟨w_4_37, fun _ h => h⟩
def wzX4_isOwing : List Cond := Cond.code yX4_isOwing cX4_isOwing 4 (some .boolean) :: lwG
theorem w_4_81 : Cond.code yX4_isOwing cX4_isOwing 4 (some .boolean) ∈ lwG := lwG_of (mt_4 (List.mem_of_getElem? (i := 81) (by decide +kernel))) rfl
theorem czX4_isOwing : Cond.code yX4_isOwing cX4_isOwing 4 (some .boolean) ∈ lwG := w_4_81
theorem azX4_isOwing : ∀ w ∈ wzX4_isOwing, w ∈ lwG := List.forall_mem_cons.mpr ⟨w_4_81, fun _ h => h⟩
def wzX4_of : List Cond := Cond.code yX4_of cX4_of 2 (some .long) :: lwG
theorem w_4_41 : Cond.code yX4_of cX4_of 2 (some .long) ∈ lwG := lwG_of (mt_4 (List.mem_of_getElem? (i := 41) (by decide +kernel))) rfl
theorem czX4_of : Cond.code yX4_of cX4_of 2 (some .long) ∈ lwG := w_4_41
theorem azX4_of : ∀ w ∈ wzX4_of, w ∈ lwG := List.forall_mem_cons.mpr ⟨w_4_41, fun _ h => h⟩
def wzX4_fewestPayments : List Cond := Cond.code yX4_fewestPayments cX4_fewestPayments 4 (some .int) :: lwG
theorem w_4_49 : Cond.code yX4_fewestPayments cX4_fewestPayments 4 (some .int) ∈ lwG := lwG_of (mt_4 (List.mem_of_getElem? (i := 49) (by decide +kernel))) rfl
theorem czX4_fewestPayments : Cond.code yX4_fewestPayments cX4_fewestPayments 4 (some .int) ∈ lwG := w_4_49
theorem azX4_fewestPayments : ∀ w ∈ wzX4_fewestPayments, w ∈ lwG := List.forall_mem_cons.mpr ⟨w_4_49, fun _ h => h⟩
def wzX4_weighSet : List Cond := Cond.code yX4_weighSet cX4_weighSet 6 none :: lwG
theorem w_4_57 : Cond.code yX4_weighSet cX4_weighSet 6 none ∈ lwG := lwG_of (mt_4 (List.mem_of_getElem? (i := 57) (by decide +kernel))) rfl
theorem czX4_weighSet : Cond.code yX4_weighSet cX4_weighSet 6 none ∈ lwG := w_4_57
theorem azX4_weighSet : ∀ w ∈ wzX4_weighSet, w ∈ lwG := List.forall_mem_cons.mpr ⟨w_4_57, fun _ h => h⟩
def wzX4_gatherUneven : List Cond := Cond.code yX4_gatherUneven cX4_gatherUneven 3 (some .int) :: lwG
theorem w_4_53 : Cond.code yX4_gatherUneven cX4_gatherUneven 3 (some .int) ∈ lwG := lwG_of (mt_4 (List.mem_of_getElem? (i := 53) (by decide +kernel))) rfl
theorem czX4_gatherUneven : Cond.code yX4_gatherUneven cX4_gatherUneven 3 (some .int) ∈ lwG := w_4_53
theorem azX4_gatherUneven : ∀ w ∈ wzX4_gatherUneven, w ∈ lwG := List.forall_mem_cons.mpr ⟨w_4_53, fun _ h => h⟩
def wzX4_layRing : List Cond := Cond.code yX4_layRing cX4_layRing 4 (some .int) :: lwG
theorem w_4_66 : Cond.code yX4_layRing cX4_layRing 4 (some .int) ∈ lwG := lwG_of (mt_4 (List.mem_of_getElem? (i := 66) (by decide +kernel))) rfl
theorem czX4_layRing : Cond.code yX4_layRing cX4_layRing 4 (some .int) ∈ lwG := w_4_66
theorem azX4_layRing : ∀ w ∈ wzX4_layRing, w ∈ lwG := List.forall_mem_cons.mpr ⟨w_4_66, fun _ h => h⟩
def wzX4_inRing : List Cond := Cond.code yX4_inRing cX4_inRing 2 (some .int) :: lwG
theorem w_4_96 : Cond.code yX4_inRing cX4_inRing 2 (some .int) ∈ lwG := lwG_of (mt_4 (List.mem_of_getElem? (i := 96) (by decide +kernel))) rfl
theorem czX4_inRing : Cond.code yX4_inRing cX4_inRing 2 (some .int) ∈ lwG := w_4_96
theorem azX4_inRing : ∀ w ∈ wzX4_inRing, w ∈ lwG := List.forall_mem_cons.mpr ⟨w_4_96, fun _ h => h⟩
def wzX4_lengthFrom : List Cond := Cond.code yX4_lengthFrom cX4_lengthFrom 4 (some .int) :: lwG
theorem w_4_70 : Cond.code yX4_lengthFrom cX4_lengthFrom 4 (some .int) ∈ lwG := lwG_of (mt_4 (List.mem_of_getElem? (i := 70) (by decide +kernel))) rfl
theorem czX4_lengthFrom : Cond.code yX4_lengthFrom cX4_lengthFrom 4 (some .int) ∈ lwG := w_4_70
theorem azX4_lengthFrom : ∀ w ∈ wzX4_lengthFrom, w ∈ lwG := List.forall_mem_cons.mpr ⟨w_4_70, fun _ h => h⟩
def wzX4_isNear : List Cond := Cond.code yX4_isNear cX4_isNear 5 (some .boolean) :: lwG
theorem w_4_77 : Cond.code yX4_isNear cX4_isNear 5 (some .boolean) ∈ lwG := lwG_of (mt_4 (List.mem_of_getElem? (i := 77) (by decide +kernel))) rfl
theorem czX4_isNear : Cond.code yX4_isNear cX4_isNear 5 (some .boolean) ∈ lwG := w_4_77
theorem azX4_isNear : ∀ w ∈ wzX4_isNear, w ∈ lwG := List.forall_mem_cons.mpr ⟨w_4_77, fun _ h => h⟩
def wzX4_follow : List Cond := Cond.code yX4_follow cX4_follow 5 none :: lwG
theorem w_4_88 : Cond.code yX4_follow cX4_follow 5 none ∈ lwG := lwG_of (mt_4 (List.mem_of_getElem? (i := 88) (by decide +kernel))) rfl
theorem czX4_follow : Cond.code yX4_follow cX4_follow 5 none ∈ lwG := w_4_88
theorem azX4_follow : ∀ w ∈ wzX4_follow, w ∈ lwG := List.forall_mem_cons.mpr ⟨w_4_88, fun _ h => h⟩
def wzX4_firstStep : List Cond := Cond.code yX4_firstStep cX4_firstStep 5 (some .int) :: lwG
theorem w_4_92 : Cond.code yX4_firstStep cX4_firstStep 5 (some .int) ∈ lwG := lwG_of (mt_4 (List.mem_of_getElem? (i := 92) (by decide +kernel))) rfl
theorem czX4_firstStep : Cond.code yX4_firstStep cX4_firstStep 5 (some .int) ∈ lwG := w_4_92
theorem azX4_firstStep : ∀ w ∈ wzX4_firstStep, w ∈ lwG := List.forall_mem_cons.mpr ⟨w_4_92, fun _ h => h⟩
def wzX5_init : List Cond := Cond.code yX5_init cX5_init 3 none :: lwG
theorem w_2_113 : Cond.code yX5_init cX5_init 3 none ∈ lwG := lwG_of (mt_2 (List.mem_of_getElem? (i := 113) (by decide +kernel))) rfl
theorem czX5_init : Cond.code yX5_init cX5_init 3 none ∈ lwG := w_2_113
theorem azX5_init : ∀ w ∈ wzX5_init, w ∈ lwG := List.forall_mem_cons.mpr ⟨w_2_113, fun _ h => h⟩
def wzX5_value : List Cond := Cond.code yX5_value cX5_value 5 none :: lwG
theorem w_5_18 : Cond.code yX5_value cX5_value 5 none ∈ lwG := lwG_of (mt_5 (List.mem_of_getElem? (i := 18) (by decide +kernel))) rfl
theorem czX5_value : Cond.code yX5_value cX5_value 5 none ∈ lwG := w_5_18
theorem azX5_value : ∀ w ∈ wzX5_value, w ∈ lwG := List.forall_mem_cons.mpr ⟨w_5_18, fun _ h => h⟩
def wzX5_setSilver : List Cond := Cond.code yX5_setSilver cX5_setSilver 9 none :: lwG
theorem w_5_24 : Cond.code yX5_setSilver cX5_setSilver 9 none ∈ lwG := lwG_of (mt_5 (List.mem_of_getElem? (i := 24) (by decide +kernel))) rfl
theorem czX5_setSilver : Cond.code yX5_setSilver cX5_setSilver 9 none ∈ lwG := w_5_24
theorem azX5_setSilver : ∀ w ∈ wzX5_setSilver, w ∈ lwG := List.forall_mem_cons.mpr ⟨w_5_24, fun _ h => h⟩
def wzX5_silverOf : List Cond := Cond.code yX5_silverOf cX5_silverOf 5 (some .long) :: lwG
theorem w_5_41 : Cond.code yX5_silverOf cX5_silverOf 5 (some .long) ∈ lwG := lwG_of (mt_5 (List.mem_of_getElem? (i := 41) (by decide +kernel))) rfl
theorem czX5_silverOf : Cond.code yX5_silverOf cX5_silverOf 5 (some .long) ∈ lwG := w_5_41
theorem azX5_silverOf : ∀ w ∈ wzX5_silverOf, w ∈ lwG := List.forall_mem_cons.mpr ⟨w_5_41, fun _ h => h⟩
def wzX5_choose : List Cond := Cond.code yX5_choose cX5_choose 5 none :: lwG
theorem w_5_33 : Cond.code yX5_choose cX5_choose 5 none ∈ lwG := lwG_of (mt_5 (List.mem_of_getElem? (i := 33) (by decide +kernel))) rfl
theorem czX5_choose : Cond.code yX5_choose cX5_choose 5 none ∈ lwG := w_5_33
theorem azX5_choose : ∀ w ∈ wzX5_choose, w ∈ lwG := List.forall_mem_cons.mpr ⟨w_5_33, fun _ h => h⟩
def wzX5_worstOf : List Cond := Cond.code yX5_worstOf cX5_worstOf 11 (some .long) :: lwG
theorem w_5_37 : Cond.code yX5_worstOf cX5_worstOf 11 (some .long) ∈ lwG := lwG_of (mt_5 (List.mem_of_getElem? (i := 37) (by decide +kernel))) rfl
theorem czX5_worstOf : Cond.code yX5_worstOf cX5_worstOf 11 (some .long) ∈ lwG := w_5_37
theorem azX5_worstOf : ∀ w ∈ wzX5_worstOf, w ∈ lwG := List.forall_mem_cons.mpr ⟨w_5_37, fun _ h => h⟩
def wzX5_wayOf : List Cond := Cond.code yX5_wayOf cX5_wayOf 5 (some .int) :: lwG
theorem w_5_46 : Cond.code yX5_wayOf cX5_wayOf 5 (some .int) ∈ lwG := lwG_of (mt_5 (List.mem_of_getElem? (i := 46) (by decide +kernel))) rfl
theorem czX5_wayOf : Cond.code yX5_wayOf cX5_wayOf 5 (some .int) ∈ lwG := w_5_46
theorem azX5_wayOf : ∀ w ∈ wzX5_wayOf, w ∈ lwG := List.forall_mem_cons.mpr ⟨w_5_46, fun _ h => h⟩
def wzX6_init : List Cond := Cond.code yX6_init cX6_init 2 none :: lwG
theorem w_2_81 : Cond.code yX6_init cX6_init 2 none ∈ lwG := lwG_of (mt_2 (List.mem_of_getElem? (i := 81) (by decide +kernel))) rfl
theorem czX6_init : Cond.code yX6_init cX6_init 2 none ∈ lwG := w_2_81
theorem azX6_init : ∀ w ∈ wzX6_init, w ∈ lwG := List.forall_mem_cons.mpr ⟨w_2_81, fun _ h => h⟩
def wzX6_fill : List Cond := Cond.code yX6_fill cX6_fill 6 none :: lwG
theorem w_4_177 : Cond.code yX6_fill cX6_fill 6 none ∈ lwG := lwG_of (mt_4 (List.mem_of_getElem? (i := 177) (by decide +kernel))) rfl
theorem czX6_fill : Cond.code yX6_fill cX6_fill 6 none ∈ lwG := w_4_177
theorem azX6_fill : ∀ w ∈ wzX6_fill, w ∈ lwG := List.forall_mem_cons.mpr ⟨w_4_177, fun _ h => h⟩
def wzX6_knownTo : List Cond := Cond.code yX6_knownTo cX6_knownTo 6 (some .int) :: lwG
theorem w_4_183 : Cond.code yX6_knownTo cX6_knownTo 6 (some .int) ∈ lwG := lwG_of (mt_4 (List.mem_of_getElem? (i := 183) (by decide +kernel))) rfl
theorem czX6_knownTo : Cond.code yX6_knownTo cX6_knownTo 6 (some .int) ∈ lwG := w_4_183
theorem azX6_knownTo : ∀ w ∈ wzX6_knownTo, w ∈ lwG := List.forall_mem_cons.mpr ⟨w_4_183, fun _ h => h⟩
def wzX6_carriedBy : List Cond := Cond.code yX6_carriedBy cX6_carriedBy 2 (some .int) :: lwG
theorem w_4_187 : Cond.code yX6_carriedBy cX6_carriedBy 2 (some .int) ∈ lwG := lwG_of (mt_4 (List.mem_of_getElem? (i := 187) (by decide +kernel))) rfl
theorem czX6_carriedBy : Cond.code yX6_carriedBy cX6_carriedBy 2 (some .int) ∈ lwG := w_4_187
theorem azX6_carriedBy : ∀ w ∈ wzX6_carriedBy, w ∈ lwG := List.forall_mem_cons.mpr ⟨w_4_187, fun _ h => h⟩
def wzX7_init : List Cond := Cond.code yX7_init cX7_init 1 none :: lwG
theorem w_1_166 : Cond.code yX7_init cX7_init 1 none ∈ lwG := lwG_of (mt_1 (List.mem_of_getElem? (i := 166) (by decide +kernel))) rfl
theorem czX7_init : Cond.code yX7_init cX7_init 1 none ∈ lwG := w_1_166
theorem azX7_init : ∀ w ∈ wzX7_init, w ∈ lwG := List.forall_mem_cons.mpr ⟨w_1_166, fun _ h => h⟩
def wzX7_read : List Cond := Cond.code yX7_read cX7_read 5 (some .int) :: lwG
theorem w_2_202 : Cond.code yX7_read cX7_read 5 (some .int) ∈ lwG := lwG_of (mt_2 (List.mem_of_getElem? (i := 202) (by decide +kernel))) rfl
theorem czX7_read : Cond.code yX7_read cX7_read 5 (some .int) ∈ lwG := w_2_202
theorem azX7_read : ∀ w ∈ wzX7_read, w ∈ lwG := List.forall_mem_cons.mpr ⟨w_2_202, fun _ h => h⟩
def wzX7_take : List Cond := Cond.code yX7_take cX7_take 3 none :: lwG
theorem w_2_207 : Cond.code yX7_take cX7_take 3 none ∈ lwG := lwG_of (mt_2 (List.mem_of_getElem? (i := 207) (by decide +kernel))) rfl
theorem czX7_take : Cond.code yX7_take cX7_take 3 none ∈ lwG := w_2_207
theorem azX7_take : ∀ w ∈ wzX7_take, w ∈ lwG := List.forall_mem_cons.mpr ⟨w_2_207, fun _ h => h⟩
def wzX7_takeDigit : List Cond := Cond.code yX7_takeDigit cX7_takeDigit 3 none :: lwG
theorem w_2_211 : Cond.code yX7_takeDigit cX7_takeDigit 3 none ∈ lwG := lwG_of (mt_2 (List.mem_of_getElem? (i := 211) (by decide +kernel))) rfl
theorem czX7_takeDigit : Cond.code yX7_takeDigit cX7_takeDigit 3 none ∈ lwG := w_2_211
theorem azX7_takeDigit : ∀ w ∈ wzX7_takeDigit, w ∈ lwG := List.forall_mem_cons.mpr ⟨w_2_211, fun _ h => h⟩
def wzX7_endNumber : List Cond := Cond.code yX7_endNumber cX7_endNumber 1 none :: lwG
theorem w_2_215 : Cond.code yX7_endNumber cX7_endNumber 1 none ∈ lwG := lwG_of (mt_2 (List.mem_of_getElem? (i := 215) (by decide +kernel))) rfl
theorem czX7_endNumber : Cond.code yX7_endNumber cX7_endNumber 1 none ∈ lwG := w_2_215
theorem azX7_endNumber : ∀ w ∈ wzX7_endNumber, w ∈ lwG := List.forall_mem_cons.mpr ⟨w_2_215, fun _ h => h⟩
def wzX7_takeUnit : List Cond := Cond.code yX7_takeUnit cX7_takeUnit 3 none :: lwG
theorem w_2_223 : Cond.code yX7_takeUnit cX7_takeUnit 3 none ∈ lwG := lwG_of (mt_2 (List.mem_of_getElem? (i := 223) (by decide +kernel))) rfl
theorem czX7_takeUnit : Cond.code yX7_takeUnit cX7_takeUnit 3 none ∈ lwG := w_2_223
theorem azX7_takeUnit : ∀ w ∈ wzX7_takeUnit, w ∈ lwG := List.forall_mem_cons.mpr ⟨w_2_223, fun _ h => h⟩
def wzX7_openOne : List Cond := Cond.code yX7_openOne cX7_openOne 2 none :: lwG
theorem w_2_231 : Cond.code yX7_openOne cX7_openOne 2 none ∈ lwG := lwG_of (mt_2 (List.mem_of_getElem? (i := 231) (by decide +kernel))) rfl
theorem czX7_openOne : Cond.code yX7_openOne cX7_openOne 2 none ∈ lwG := w_2_231
theorem azX7_openOne : ∀ w ∈ wzX7_openOne, w ∈ lwG := List.forall_mem_cons.mpr ⟨w_2_231, fun _ h => h⟩
def wzX7_takeJoint : List Cond := Cond.code yX7_takeJoint cX7_takeJoint 3 none :: lwG
theorem w_2_235 : Cond.code yX7_takeJoint cX7_takeJoint 3 none ∈ lwG := lwG_of (mt_2 (List.mem_of_getElem? (i := 235) (by decide +kernel))) rfl
theorem czX7_takeJoint : Cond.code yX7_takeJoint cX7_takeJoint 3 none ∈ lwG := w_2_235
theorem azX7_takeJoint : ∀ w ∈ wzX7_takeJoint, w ∈ lwG := List.forall_mem_cons.mpr ⟨w_2_235, fun _ h => h⟩
def wzX7_closeOne : List Cond := Cond.code yX7_closeOne cX7_closeOne 2 none :: lwG
theorem w_2_239 : Cond.code yX7_closeOne cX7_closeOne 2 none ∈ lwG := lwG_of (mt_2 (List.mem_of_getElem? (i := 239) (by decide +kernel))) rfl
theorem czX7_closeOne : Cond.code yX7_closeOne cX7_closeOne 2 none ∈ lwG := w_2_239
theorem azX7_closeOne : ∀ w ∈ wzX7_closeOne, w ∈ lwG := List.forall_mem_cons.mpr ⟨w_2_239, fun _ h => h⟩
def wzX7_turn : List Cond := Cond.code yX7_turn cX7_turn 2 none :: lwG
theorem w_3_14 : Cond.code yX7_turn cX7_turn 2 none ∈ lwG := lwG_of (mt_3 (List.mem_of_getElem? (i := 14) (by decide +kernel))) rfl
theorem czX7_turn : Cond.code yX7_turn cX7_turn 2 none ∈ lwG := w_3_14
theorem azX7_turn : ∀ w ∈ wzX7_turn, w ∈ lwG := List.forall_mem_cons.mpr ⟨w_3_14, fun _ h => h⟩
def wzX7_join : List Cond := Cond.code yX7_join cX7_join 4 none :: lwG
theorem w_3_18 : Cond.code yX7_join cX7_join 4 none ∈ lwG := lwG_of (mt_3 (List.mem_of_getElem? (i := 18) (by decide +kernel))) rfl
theorem czX7_join : Cond.code yX7_join cX7_join 4 none ∈ lwG := w_3_18
theorem azX7_join : ∀ w ∈ wzX7_join, w ∈ lwG := List.forall_mem_cons.mpr ⟨w_3_18, fun _ h => h⟩
def wzX7_end : List Cond := Cond.code yX7_end cX7_end 2 none :: lwG
theorem w_3_22 : Cond.code yX7_end cX7_end 2 none ∈ lwG := lwG_of (mt_3 (List.mem_of_getElem? (i := 22) (by decide +kernel))) rfl
theorem czX7_end : Cond.code yX7_end cX7_end 2 none ∈ lwG := w_3_22
theorem azX7_end : ∀ w ∈ wzX7_end, w ∈ lwG := List.forall_mem_cons.mpr ⟨w_3_22, fun _ h => h⟩
def wzX7_rank : List Cond := Cond.code yX7_rank cX7_rank 1 (some .int) :: lwG
theorem w_3_10 : Cond.code yX7_rank cX7_rank 1 (some .int) ∈ lwG := lwG_of (mt_3 (List.mem_of_getElem? (i := 10) (by decide +kernel))) rfl
theorem czX7_rank : Cond.code yX7_rank cX7_rank 1 (some .int) ∈ lwG := w_3_10
theorem azX7_rank : ∀ w ∈ wzX7_rank, w ∈ lwG := List.forall_mem_cons.mpr ⟨w_3_10, fun _ h => h⟩
def wzX7_release : List Cond := Cond.code yX7_release cX7_release 4 none :: lwG
theorem w_3_3 : Cond.code yX7_release cX7_release 4 none ∈ lwG := lwG_of (mt_3 (List.mem_of_getElem? (i := 3) (by decide +kernel))) rfl
theorem czX7_release : Cond.code yX7_release cX7_release 4 none ∈ lwG := w_3_3
theorem azX7_release : ∀ w ∈ wzX7_release, w ∈ lwG := List.forall_mem_cons.mpr ⟨w_3_3, fun _ h => h⟩
def wzX7_top : List Cond := Cond.code yX7_top cX7_top 1 (some .int) :: lwG
theorem w_3_7 : Cond.code yX7_top cX7_top 1 (some .int) ∈ lwG := lwG_of (mt_3 (List.mem_of_getElem? (i := 7) (by decide +kernel))) rfl
theorem czX7_top : Cond.code yX7_top cX7_top 1 (some .int) ∈ lwG := w_3_7
theorem azX7_top : ∀ w ∈ wzX7_top, w ∈ lwG := List.forall_mem_cons.mpr ⟨w_3_7, fun _ h => h⟩
def wzX7_push : List Cond := Cond.code yX7_push cX7_push 2 none :: lwG
theorem w_2_227 : Cond.code yX7_push cX7_push 2 none ∈ lwG := lwG_of (mt_2 (List.mem_of_getElem? (i := 227) (by decide +kernel))) rfl
theorem czX7_push : Cond.code yX7_push cX7_push 2 none ∈ lwG := w_2_227
theorem azX7_push : ∀ w ∈ wzX7_push, w ∈ lwG := List.forall_mem_cons.mpr ⟨w_2_227, fun _ h => h⟩
def wzX7_put : List Cond := Cond.code yX7_put cX7_put 2 none :: lwG
theorem w_2_219 : Cond.code yX7_put cX7_put 2 none ∈ lwG := lwG_of (mt_2 (List.mem_of_getElem? (i := 219) (by decide +kernel))) rfl
theorem czX7_put : Cond.code yX7_put cX7_put 2 none ∈ lwG := w_2_219
theorem azX7_put : ∀ w ∈ wzX7_put, w ∈ lwG := List.forall_mem_cons.mpr ⟨w_2_219, fun _ h => h⟩
def wzX8_init : List Cond := Cond.code yX8_init cX8_init 3 none :: lwG
theorem w_1_36 : Cond.code yX8_init cX8_init 3 none ∈ lwG := lwG_of (mt_1 (List.mem_of_getElem? (i := 36) (by decide +kernel))) rfl
theorem czX8_init : Cond.code yX8_init cX8_init 3 none ∈ lwG := w_1_36
theorem azX8_init : ∀ w ∈ wzX8_init, w ∈ lwG := List.forall_mem_cons.mpr ⟨w_1_36, fun _ h => h⟩
def wzX8_isFull : List Cond := Cond.code yX8_isFull cX8_isFull 1 (some .boolean) :: lwG
theorem w_1_73 : Cond.code yX8_isFull cX8_isFull 1 (some .boolean) ∈ lwG := lwG_of (mt_1 (List.mem_of_getElem? (i := 73) (by decide +kernel))) rfl
theorem czX8_isFull : Cond.code yX8_isFull cX8_isFull 1 (some .boolean) ∈ lwG := w_1_73
theorem azX8_isFull : ∀ w ∈ wzX8_isFull, w ∈ lwG := List.forall_mem_cons.mpr ⟨w_1_73, fun _ h => h⟩
def wzX8_get : List Cond := Cond.code yX8_get cX8_get 4 (some .int) :: lwG
theorem w_2_189 : Cond.code yX8_get cX8_get 4 (some .int) ∈ lwG := lwG_of (mt_2 (List.mem_of_getElem? (i := 189) (by decide +kernel))) rfl
theorem czX8_get : Cond.code yX8_get cX8_get 4 (some .int) ∈ lwG := w_2_189
theorem azX8_get : ∀ w ∈ wzX8_get, w ∈ lwG := List.forall_mem_cons.mpr ⟨w_2_189, fun _ h => h⟩
def wzX8_set : List Cond := Cond.code yX8_set cX8_set 5 none :: lwG
theorem w_1_77 : Cond.code yX8_set cX8_set 5 none ∈ lwG := lwG_of (mt_1 (List.mem_of_getElem? (i := 77) (by decide +kernel))) rfl
theorem czX8_set : Cond.code yX8_set cX8_set 5 none ∈ lwG := w_1_77
theorem azX8_set : ∀ w ∈ wzX8_set, w ∈ lwG := List.forall_mem_cons.mpr ⟨w_1_77, fun _ h => h⟩
def wzX8_placeOf : List Cond := Cond.code yX8_placeOf cX8_placeOf 4 (some .int) :: lwG
theorem w_1_81 : Cond.code yX8_placeOf cX8_placeOf 4 (some .int) ∈ lwG := lwG_of (mt_1 (List.mem_of_getElem? (i := 81) (by decide +kernel))) rfl
theorem czX8_placeOf : Cond.code yX8_placeOf cX8_placeOf 4 (some .int) ∈ lwG := w_1_81
theorem azX8_placeOf : ∀ w ∈ wzX8_placeOf, w ∈ lwG := List.forall_mem_cons.mpr ⟨w_1_81, fun _ h => h⟩
def wzX8_add : List Cond := Cond.code yX8_add cX8_add 8 (some .int) :: lwG
theorem w_1_69 : Cond.code yX8_add cX8_add 8 (some .int) ∈ lwG := lwG_of (mt_1 (List.mem_of_getElem? (i := 69) (by decide +kernel))) rfl
theorem czX8_add : Cond.code yX8_add cX8_add 8 (some .int) ∈ lwG := w_1_69
theorem azX8_add : ∀ w ∈ wzX8_add, w ∈ lwG := List.forall_mem_cons.mpr ⟨w_1_69, fun _ h => h⟩
def wzX8_clear : List Cond := Cond.code yX8_clear cX8_clear 1 none :: lwG
theorem w_4_104 : Cond.code yX8_clear cX8_clear 1 none ∈ lwG := lwG_of (mt_4 (List.mem_of_getElem? (i := 104) (by decide +kernel))) rfl
theorem czX8_clear : Cond.code yX8_clear cX8_clear 1 none ∈ lwG := w_4_104
theorem azX8_clear : ∀ w ∈ wzX8_clear, w ∈ lwG := List.forall_mem_cons.mpr ⟨w_4_104, fun _ h => h⟩
def wzX8_become : List Cond := Cond.code yX8_become cX8_become 3 none :: lwG
theorem w_5_63 : Cond.code yX8_become cX8_become 3 none ∈ lwG := lwG_of (mt_5 (List.mem_of_getElem? (i := 63) (by decide +kernel))) rfl
theorem czX8_become : Cond.code yX8_become cX8_become 3 none ∈ lwG := w_5_63
theorem azX8_become : ∀ w ∈ wzX8_become, w ∈ lwG := List.forall_mem_cons.mpr ⟨w_5_63, fun _ h => h⟩
def wzX8_mixAll : List Cond := Cond.code yX8_mixAll cX8_mixAll 7 (some .long) :: lwG
theorem w_5_93 : Cond.code yX8_mixAll cX8_mixAll 7 (some .long) ∈ lwG := lwG_of (mt_5 (List.mem_of_getElem? (i := 93) (by decide +kernel))) rfl
theorem czX8_mixAll : Cond.code yX8_mixAll cX8_mixAll 7 (some .long) ∈ lwG := w_5_93
theorem azX8_mixAll : ∀ w ∈ wzX8_mixAll, w ∈ lwG := List.forall_mem_cons.mpr ⟨w_5_93, fun _ h => h⟩
def wzX8_mixTexts : List Cond := Cond.code yX8_mixTexts cX8_mixTexts 7 (some .long) :: lwG
theorem w_5_103 : Cond.code yX8_mixTexts cX8_mixTexts 7 (some .long) ∈ lwG := lwG_of (mt_5 (List.mem_of_getElem? (i := 103) (by decide +kernel))) rfl
theorem czX8_mixTexts : Cond.code yX8_mixTexts cX8_mixTexts 7 (some .long) ∈ lwG := w_5_103
theorem azX8_mixTexts : ∀ w ∈ wzX8_mixTexts, w ∈ lwG := List.forall_mem_cons.mpr ⟨w_5_103, fun _ h => h⟩
def wzX8_mixRow : List Cond := Cond.code yX8_mixRow cX8_mixRow 8 (some .long) :: lwG
theorem w_5_97 : Cond.code yX8_mixRow cX8_mixRow 8 (some .long) ∈ lwG := lwG_of (mt_5 (List.mem_of_getElem? (i := 97) (by decide +kernel))) rfl
theorem czX8_mixRow : Cond.code yX8_mixRow cX8_mixRow 8 (some .long) ∈ lwG := w_5_97
theorem azX8_mixRow : ∀ w ∈ wzX8_mixRow, w ∈ lwG := List.forall_mem_cons.mpr ⟨w_5_97, fun _ h => h⟩
def wzX9_init : List Cond := Cond.code yX9_init cX9_init 3 none :: lwG
theorem w_2_49 : Cond.code yX9_init cX9_init 3 none ∈ lwG := lwG_of (mt_2 (List.mem_of_getElem? (i := 49) (by decide +kernel))) rfl
theorem czX9_init : Cond.code yX9_init cX9_init 3 none ∈ lwG := w_2_49
theorem azX9_init : ∀ w ∈ wzX9_init, w ∈ lwG := List.forall_mem_cons.mpr ⟨w_2_49, fun _ h => h⟩
def wzX9_leftByGates : List Cond := Cond.code yX9_leftByGates cX9_leftByGates 11 (some .int) :: lwG
theorem w_3_200 : Cond.code yX9_leftByGates cX9_leftByGates 11 (some .int) ∈ lwG := lwG_of (mt_3 (List.mem_of_getElem? (i := 200) (by decide +kernel))) rfl
theorem czX9_leftByGates : Cond.code yX9_leftByGates cX9_leftByGates 11 (some .int) ∈ lwG := w_3_200
theorem azX9_leftByGates : ∀ w ∈ wzX9_leftByGates, w ∈ lwG := List.forall_mem_cons.mpr ⟨w_3_200, fun _ h => h⟩
def wzX9_leftByLuck : List Cond := Cond.code yX9_leftByLuck cX9_leftByLuck 3 (some .int) :: lwG
theorem w_5_29 : Cond.code yX9_leftByLuck cX9_leftByLuck 3 (some .int) ∈ lwG := lwG_of (mt_5 (List.mem_of_getElem? (i := 29) (by decide +kernel))) rfl
theorem czX9_leftByLuck : Cond.code yX9_leftByLuck cX9_leftByLuck 3 (some .int) ∈ lwG := w_5_29
theorem azX9_leftByLuck : ∀ w ∈ wzX9_leftByLuck, w ∈ lwG := List.forall_mem_cons.mpr ⟨w_5_29, fun _ h => h⟩
def wzX9_lowerOf : List Cond := Cond.code yX9_lowerOf cX9_lowerOf 2 (some .long) :: lwG
theorem w_4_2 : Cond.code yX9_lowerOf cX9_lowerOf 2 (some .long) ∈ lwG := lwG_of (mt_4 (List.mem_of_getElem? (i := 2) (by decide +kernel))) rfl
theorem czX9_lowerOf : Cond.code yX9_lowerOf cX9_lowerOf 2 (some .long) ∈ lwG := w_4_2
theorem azX9_lowerOf : ∀ w ∈ wzX9_lowerOf, w ∈ lwG := List.forall_mem_cons.mpr ⟨w_4_2, fun _ h => h⟩
def wzX9_upperOf : List Cond := Cond.code yX9_upperOf cX9_upperOf 2 (some .long) :: lwG
theorem w_4_14 : Cond.code yX9_upperOf cX9_upperOf 2 (some .long) ∈ lwG := lwG_of (mt_4 (List.mem_of_getElem? (i := 14) (by decide +kernel))) rfl
theorem czX9_upperOf : Cond.code yX9_upperOf cX9_upperOf 2 (some .long) ∈ lwG := w_4_14
theorem azX9_upperOf : ∀ w ∈ wzX9_upperOf, w ∈ lwG := List.forall_mem_cons.mpr ⟨w_4_14, fun _ h => h⟩
def wzX9_highestLower : List Cond := Cond.code yX9_highestLower cX9_highestLower 3 (some .int) :: lwG
theorem w_3_238 : Cond.code yX9_highestLower cX9_highestLower 3 (some .int) ∈ lwG := lwG_of (mt_3 (List.mem_of_getElem? (i := 238) (by decide +kernel))) rfl
theorem czX9_highestLower : Cond.code yX9_highestLower cX9_highestLower 3 (some .int) ∈ lwG := w_3_238
theorem azX9_highestLower : ∀ w ∈ wzX9_highestLower, w ∈ lwG := List.forall_mem_cons.mpr ⟨w_3_238, fun _ h => h⟩
def wzX9_lowestUpper : List Cond := Cond.code yX9_lowestUpper cX9_lowestUpper 3 (some .int) :: lwG
theorem w_4_10 : Cond.code yX9_lowestUpper cX9_lowestUpper 3 (some .int) ∈ lwG := lwG_of (mt_4 (List.mem_of_getElem? (i := 10) (by decide +kernel))) rfl
theorem czX9_lowestUpper : Cond.code yX9_lowestUpper cX9_lowestUpper 3 (some .int) ∈ lwG := w_4_10
theorem azX9_lowestUpper : ∀ w ∈ wzX9_lowestUpper, w ∈ lwG := List.forall_mem_cons.mpr ⟨w_4_10, fun _ h => h⟩
def wzX9_stonesMeet : List Cond := Cond.code yX9_stonesMeet cX9_stonesMeet 3 (some .boolean) :: lwG
theorem w_3_234 : Cond.code yX9_stonesMeet cX9_stonesMeet 3 (some .boolean) ∈ lwG := lwG_of (mt_3 (List.mem_of_getElem? (i := 234) (by decide +kernel))) rfl
theorem czX9_stonesMeet : Cond.code yX9_stonesMeet cX9_stonesMeet 3 (some .boolean) ∈ lwG := w_3_234
theorem azX9_stonesMeet : ∀ w ∈ wzX9_stonesMeet, w ∈ lwG := List.forall_mem_cons.mpr ⟨w_3_234, fun _ h => h⟩
def wzX9_isAbove : List Cond := Cond.code yX9_isAbove cX9_isAbove 7 (some .boolean) :: lwG
theorem w_4_6 : Cond.code yX9_isAbove cX9_isAbove 7 (some .boolean) ∈ lwG := lwG_of (mt_4 (List.mem_of_getElem? (i := 6) (by decide +kernel))) rfl
theorem czX9_isAbove : Cond.code yX9_isAbove cX9_isAbove 7 (some .boolean) ∈ lwG := w_4_6
theorem azX9_isAbove : ∀ w ∈ wzX9_isAbove, w ∈ lwG := List.forall_mem_cons.mpr ⟨w_4_6, fun _ h => h⟩
def wzX10_init : List Cond := Cond.code yX10_init cX10_init 2 none :: lwG
theorem w_2_62 : Cond.code yX10_init cX10_init 2 none ∈ lwG := lwG_of (mt_2 (List.mem_of_getElem? (i := 62) (by decide +kernel))) rfl
theorem czX10_init : Cond.code yX10_init cX10_init 2 none ∈ lwG := w_2_62
theorem azX10_init : ∀ w ∈ wzX10_init, w ∈ lwG := List.forall_mem_cons.mpr ⟨w_2_62, fun _ h => h⟩
def wzX10_know : List Cond := Cond.code yX10_know cX10_know 4 none :: lwG
theorem w_4_120 : Cond.code yX10_know cX10_know 4 none ∈ lwG := lwG_of (mt_4 (List.mem_of_getElem? (i := 120) (by decide +kernel))) rfl
theorem czX10_know : Cond.code yX10_know cX10_know 4 none ∈ lwG := w_4_120
theorem azX10_know : ∀ w ∈ wzX10_know, w ∈ lwG := List.forall_mem_cons.mpr ⟨w_4_120, fun _ h => h⟩
def wzX10_countOrders : List Cond := Cond.code yX10_countOrders cX10_countOrders 6 (some .int) :: lwG
theorem w_4_126 : Cond.code yX10_countOrders cX10_countOrders 6 (some .int) ∈ lwG := lwG_of (mt_4 (List.mem_of_getElem? (i := 126) (by decide +kernel))) rfl
theorem czX10_countOrders : Cond.code yX10_countOrders cX10_countOrders 6 (some .int) ∈ lwG := w_4_126
theorem azX10_countOrders : ∀ w ∈ wzX10_countOrders, w ∈ lwG := List.forall_mem_cons.mpr ⟨w_4_126, fun _ h => h⟩
def wzX10_isNext : List Cond := Cond.code yX10_isNext cX10_isNext 3 (some .boolean) :: lwG
theorem w_4_131 : Cond.code yX10_isNext cX10_isNext 3 (some .boolean) ∈ lwG := lwG_of (mt_4 (List.mem_of_getElem? (i := 131) (by decide +kernel))) rfl
theorem czX10_isNext : Cond.code yX10_isNext cX10_isNext 3 (some .boolean) ∈ lwG := w_4_131
theorem azX10_isNext : ∀ w ∈ wzX10_isNext, w ∈ lwG := List.forall_mem_cons.mpr ⟨w_4_131, fun _ h => h⟩
def wzX10_layFirstOrder : List Cond := Cond.code yX10_layFirstOrder cX10_layFirstOrder 4 (some .boolean) :: lwG
theorem w_4_139 : Cond.code yX10_layFirstOrder cX10_layFirstOrder 4 (some .boolean) ∈ lwG := lwG_of (mt_4 (List.mem_of_getElem? (i := 139) (by decide +kernel))) rfl
theorem czX10_layFirstOrder : Cond.code yX10_layFirstOrder cX10_layFirstOrder 4 (some .boolean) ∈ lwG := w_4_139
theorem azX10_layFirstOrder : ∀ w ∈ wzX10_layFirstOrder, w ∈ lwG := List.forall_mem_cons.mpr ⟨w_4_139, fun _ h => h⟩
def wzX10_firstNext : List Cond := Cond.code yX10_firstNext cX10_firstNext 3 (some .int) :: lwG
theorem w_4_143 : Cond.code yX10_firstNext cX10_firstNext 3 (some .int) ∈ lwG := lwG_of (mt_4 (List.mem_of_getElem? (i := 143) (by decide +kernel))) rfl
theorem czX10_firstNext : Cond.code yX10_firstNext cX10_firstNext 3 (some .int) ∈ lwG := w_4_143
theorem azX10_firstNext : ∀ w ∈ wzX10_firstNext, w ∈ lwG := List.forall_mem_cons.mpr ⟨w_4_143, fun _ h => h⟩
def wzX10_nameAt : List Cond := Cond.code yX10_nameAt cX10_nameAt 2 (some .int) :: lwG
theorem w_4_165 : Cond.code yX10_nameAt cX10_nameAt 2 (some .int) ∈ lwG := lwG_of (mt_4 (List.mem_of_getElem? (i := 165) (by decide +kernel))) rfl
theorem czX10_nameAt : Cond.code yX10_nameAt cX10_nameAt 2 (some .int) ∈ lwG := w_4_165
theorem azX10_nameAt : ∀ w ∈ wzX10_nameAt, w ∈ lwG := List.forall_mem_cons.mpr ⟨w_4_165, fun _ h => h⟩
def wzX10_countAhead : List Cond := Cond.code yX10_countAhead cX10_countAhead 2 (some .int) :: lwG
theorem w_4_147 : Cond.code yX10_countAhead cX10_countAhead 2 (some .int) ∈ lwG := lwG_of (mt_4 (List.mem_of_getElem? (i := 147) (by decide +kernel))) rfl
theorem czX10_countAhead : Cond.code yX10_countAhead cX10_countAhead 2 (some .int) ∈ lwG := w_4_147
theorem azX10_countAhead : ∀ w ∈ wzX10_countAhead, w ∈ lwG := List.forall_mem_cons.mpr ⟨w_4_147, fun _ h => h⟩
def wzX10_countBehind : List Cond := Cond.code yX10_countBehind cX10_countBehind 4 (some .int) :: lwG
theorem w_4_157 : Cond.code yX10_countBehind cX10_countBehind 4 (some .int) ∈ lwG := lwG_of (mt_4 (List.mem_of_getElem? (i := 157) (by decide +kernel))) rfl
theorem czX10_countBehind : Cond.code yX10_countBehind cX10_countBehind 4 (some .int) ∈ lwG := w_4_157
theorem azX10_countBehind : ∀ w ∈ wzX10_countBehind, w ∈ lwG := List.forall_mem_cons.mpr ⟨w_4_157, fun _ h => h⟩
def wzX11_init : List Cond := Cond.code yX11_init cX11_init 1 none :: lwG
theorem w_1_22 : Cond.code yX11_init cX11_init 1 none ∈ lwG := lwG_of (mt_1 (List.mem_of_getElem? (i := 22) (by decide +kernel))) rfl
theorem czX11_init : Cond.code yX11_init cX11_init 1 none ∈ lwG := w_1_22
theorem azX11_init : ∀ w ∈ wzX11_init, w ∈ lwG := List.forall_mem_cons.mpr ⟨w_1_22, fun _ h => h⟩
def wzX11_merchant : List Cond := Cond.code yX11_merchant cX11_merchant 3 (some .int) :: lwG
theorem w_2_176 : Cond.code yX11_merchant cX11_merchant 3 (some .int) ∈ lwG := lwG_of (mt_2 (List.mem_of_getElem? (i := 176) (by decide +kernel))) rfl
theorem czX11_merchant : Cond.code yX11_merchant cX11_merchant 3 (some .int) ∈ lwG := w_2_176
theorem azX11_merchant : ∀ w ∈ wzX11_merchant, w ∈ lwG := List.forall_mem_cons.mpr ⟨w_2_176, fun _ h => h⟩
def wzX11_write : List Cond := Cond.code yX11_write cX11_write 4 (some .int) :: lwG
theorem w_2_185 : Cond.code yX11_write cX11_write 4 (some .int) ∈ lwG := lwG_of (mt_2 (List.mem_of_getElem? (i := 185) (by decide +kernel))) rfl
theorem czX11_write : Cond.code yX11_write cX11_write 4 (some .int) ∈ lwG := w_2_185
theorem azX11_write : ∀ w ∈ wzX11_write, w ∈ lwG := List.forall_mem_cons.mpr ⟨w_2_185, fun _ h => h⟩
def wzX11_erase : List Cond := Cond.code yX11_erase cX11_erase 3 (some .int) :: lwG
theorem w_2_194 : Cond.code yX11_erase cX11_erase 3 (some .int) ∈ lwG := lwG_of (mt_2 (List.mem_of_getElem? (i := 194) (by decide +kernel))) rfl
theorem czX11_erase : Cond.code yX11_erase cX11_erase 3 (some .int) ∈ lwG := w_2_194
theorem azX11_erase : ∀ w ∈ wzX11_erase, w ∈ lwG := List.forall_mem_cons.mpr ⟨w_2_194, fun _ h => h⟩
def wzX11_fault : List Cond := Cond.code yX11_fault cX11_fault 2 (some .int) :: lwG
theorem w_2_198 : Cond.code yX11_fault cX11_fault 2 (some .int) ∈ lwG := lwG_of (mt_2 (List.mem_of_getElem? (i := 198) (by decide +kernel))) rfl
theorem czX11_fault : Cond.code yX11_fault cX11_fault 2 (some .int) ∈ lwG := w_2_198
theorem azX11_fault : ∀ w ∈ wzX11_fault, w ∈ lwG := List.forall_mem_cons.mpr ⟨w_2_198, fun _ h => h⟩
def wzX11_tells : List Cond := Cond.code yX11_tells cX11_tells 8 (some .long) :: lwG
theorem w_3_26 : Cond.code yX11_tells cX11_tells 8 (some .long) ∈ lwG := lwG_of (mt_3 (List.mem_of_getElem? (i := 26) (by decide +kernel))) rfl
theorem czX11_tells : Cond.code yX11_tells cX11_tells 8 (some .long) ∈ lwG := w_3_26
theorem azX11_tells : ∀ w ∈ wzX11_tells, w ∈ lwG := List.forall_mem_cons.mpr ⟨w_3_26, fun _ h => h⟩
def wzX11_act : List Cond := Cond.code yX11_act cX11_act 5 (some .int) :: lwG
theorem w_3_58 : Cond.code yX11_act cX11_act 5 (some .int) ∈ lwG := lwG_of (mt_3 (List.mem_of_getElem? (i := 58) (by decide +kernel))) rfl
theorem czX11_act : Cond.code yX11_act cX11_act 5 (some .int) ∈ lwG := w_3_58
theorem azX11_act : ∀ w ∈ wzX11_act, w ∈ lwG := List.forall_mem_cons.mpr ⟨w_3_58, fun _ h => h⟩
def wzX11_force : List Cond := Cond.code yX11_force cX11_force 3 (some .int) :: lwG
theorem w_3_68 : Cond.code yX11_force cX11_force 3 (some .int) ∈ lwG := lwG_of (mt_3 (List.mem_of_getElem? (i := 68) (by decide +kernel))) rfl
theorem czX11_force : Cond.code yX11_force cX11_force 3 (some .int) ∈ lwG := w_3_68
theorem azX11_force : ∀ w ∈ wzX11_force, w ∈ lwG := List.forall_mem_cons.mpr ⟨w_3_68, fun _ h => h⟩
def wzX11_debt : List Cond := Cond.code yX11_debt cX11_debt 7 (some .int) :: lwG
theorem w_3_76 : Cond.code yX11_debt cX11_debt 7 (some .int) ∈ lwG := lwG_of (mt_3 (List.mem_of_getElem? (i := 76) (by decide +kernel))) rfl
theorem czX11_debt : Cond.code yX11_debt cX11_debt 7 (some .int) ∈ lwG := w_3_76
theorem azX11_debt : ∀ w ∈ wzX11_debt, w ∈ lwG := List.forall_mem_cons.mpr ⟨w_3_76, fun _ h => h⟩
def wzX11_pay : List Cond := Cond.code yX11_pay cX11_pay 4 (some .int) :: lwG
theorem w_3_85 : Cond.code yX11_pay cX11_pay 4 (some .int) ∈ lwG := lwG_of (mt_3 (List.mem_of_getElem? (i := 85) (by decide +kernel))) rfl
theorem czX11_pay : Cond.code yX11_pay cX11_pay 4 (some .int) ∈ lwG := w_3_85
theorem azX11_pay : ∀ w ∈ wzX11_pay, w ∈ lwG := List.forall_mem_cons.mpr ⟨w_3_85, fun _ h => h⟩
def wzX11_seal : List Cond := Cond.code yX11_seal cX11_seal 3 (some .int) :: lwG
theorem w_3_93 : Cond.code yX11_seal cX11_seal 3 (some .int) ∈ lwG := lwG_of (mt_3 (List.mem_of_getElem? (i := 93) (by decide +kernel))) rfl
theorem czX11_seal : Cond.code yX11_seal cX11_seal 3 (some .int) ∈ lwG := w_3_93
theorem azX11_seal : ∀ w ∈ wzX11_seal, w ∈ lwG := List.forall_mem_cons.mpr ⟨w_3_93, fun _ h => h⟩
def wzX11_breaks : List Cond := Cond.code yX11_breaks cX11_breaks 3 (some .int) :: lwG
theorem w_3_97 : Cond.code yX11_breaks cX11_breaks 3 (some .int) ∈ lwG := lwG_of (mt_3 (List.mem_of_getElem? (i := 97) (by decide +kernel))) rfl
theorem czX11_breaks : Cond.code yX11_breaks cX11_breaks 3 (some .int) ∈ lwG := w_3_97
theorem azX11_breaks : ∀ w ∈ wzX11_breaks, w ∈ lwG := List.forall_mem_cons.mpr ⟨w_3_97, fun _ h => h⟩
def wzX11_owed : List Cond := Cond.code yX11_owed cX11_owed 3 (some .long) :: lwG
theorem w_3_101 : Cond.code yX11_owed cX11_owed 3 (some .long) ∈ lwG := lwG_of (mt_3 (List.mem_of_getElem? (i := 101) (by decide +kernel))) rfl
theorem czX11_owed : Cond.code yX11_owed cX11_owed 3 (some .long) ∈ lwG := w_3_101
theorem azX11_owed : ∀ w ∈ wzX11_owed, w ∈ lwG := List.forall_mem_cons.mpr ⟨w_3_101, fun _ h => h⟩
def wzX11_purse : List Cond := Cond.code yX11_purse cX11_purse 4 (some .int) :: lwG
theorem w_3_149 : Cond.code yX11_purse cX11_purse 4 (some .int) ∈ lwG := lwG_of (mt_3 (List.mem_of_getElem? (i := 149) (by decide +kernel))) rfl
theorem czX11_purse : Cond.code yX11_purse cX11_purse 4 (some .int) ∈ lwG := w_3_149
theorem azX11_purse : ∀ w ∈ wzX11_purse, w ∈ lwG := List.forall_mem_cons.mpr ⟨w_3_149, fun _ h => h⟩
def wzX11_share : List Cond := Cond.code yX11_share cX11_share 5 (some .int) :: lwG
theorem w_3_153 : Cond.code yX11_share cX11_share 5 (some .int) ∈ lwG := lwG_of (mt_3 (List.mem_of_getElem? (i := 153) (by decide +kernel))) rfl
theorem czX11_share : Cond.code yX11_share cX11_share 5 (some .int) ∈ lwG := w_3_153
theorem azX11_share : ∀ w ∈ wzX11_share, w ∈ lwG := List.forall_mem_cons.mpr ⟨w_3_153, fun _ h => h⟩
def wzX11_leave : List Cond := Cond.code yX11_leave cX11_leave 5 (some .int) :: lwG
theorem w_3_165 : Cond.code yX11_leave cX11_leave 5 (some .int) ∈ lwG := lwG_of (mt_3 (List.mem_of_getElem? (i := 165) (by decide +kernel))) rfl
theorem czX11_leave : Cond.code yX11_leave cX11_leave 5 (some .int) ∈ lwG := w_3_165
theorem azX11_leave : ∀ w ∈ wzX11_leave, w ∈ lwG := List.forall_mem_cons.mpr ⟨w_3_165, fun _ h => h⟩
def wzX11_parted : List Cond := Cond.code yX11_parted cX11_parted 4 (some .int) :: lwG
theorem w_3_174 : Cond.code yX11_parted cX11_parted 4 (some .int) ∈ lwG := lwG_of (mt_3 (List.mem_of_getElem? (i := 174) (by decide +kernel))) rfl
theorem czX11_parted : Cond.code yX11_parted cX11_parted 4 (some .int) ∈ lwG := w_3_174
theorem azX11_parted : ∀ w ∈ wzX11_parted, w ∈ lwG := List.forall_mem_cons.mpr ⟨w_3_174, fun _ h => h⟩
def wzX11_gate : List Cond := Cond.code yX11_gate cX11_gate 2 (some .int) :: lwG
theorem w_3_188 : Cond.code yX11_gate cX11_gate 2 (some .int) ∈ lwG := lwG_of (mt_3 (List.mem_of_getElem? (i := 188) (by decide +kernel))) rfl
theorem czX11_gate : Cond.code yX11_gate cX11_gate 2 (some .int) ∈ lwG := w_3_188
theorem azX11_gate : ∀ w ∈ wzX11_gate, w ∈ lwG := List.forall_mem_cons.mpr ⟨w_3_188, fun _ h => h⟩
def wzX11_wide : List Cond := Cond.code yX11_wide cX11_wide 4 (some .int) :: lwG
theorem w_3_192 : Cond.code yX11_wide cX11_wide 4 (some .int) ∈ lwG := lwG_of (mt_3 (List.mem_of_getElem? (i := 192) (by decide +kernel))) rfl
theorem czX11_wide : Cond.code yX11_wide cX11_wide 4 (some .int) ∈ lwG := w_3_192
theorem azX11_wide : ∀ w ∈ wzX11_wide, w ∈ lwG := List.forall_mem_cons.mpr ⟨w_3_192, fun _ h => h⟩
def wzX11_narrow : List Cond := Cond.code yX11_narrow cX11_narrow 3 (some .int) :: lwG
theorem w_3_207 : Cond.code yX11_narrow cX11_narrow 3 (some .int) ∈ lwG := lwG_of (mt_3 (List.mem_of_getElem? (i := 207) (by decide +kernel))) rfl
theorem czX11_narrow : Cond.code yX11_narrow cX11_narrow 3 (some .int) ∈ lwG := w_3_207
theorem azX11_narrow : ∀ w ∈ wzX11_narrow, w ∈ lwG := List.forall_mem_cons.mpr ⟨w_3_207, fun _ h => h⟩
def wzX11_mean : List Cond := Cond.code yX11_mean cX11_mean 2 (some .int) :: lwG
theorem w_3_211 : Cond.code yX11_mean cX11_mean 2 (some .int) ∈ lwG := lwG_of (mt_3 (List.mem_of_getElem? (i := 211) (by decide +kernel))) rfl
theorem czX11_mean : Cond.code yX11_mean cX11_mean 2 (some .int) ∈ lwG := w_3_211
theorem azX11_mean : ∀ w ∈ wzX11_mean, w ∈ lwG := List.forall_mem_cons.mpr ⟨w_3_211, fun _ h => h⟩
def wzX11_better : List Cond := Cond.code yX11_better cX11_better 6 (some .int) :: lwG
theorem w_3_222 : Cond.code yX11_better cX11_better 6 (some .int) ∈ lwG := lwG_of (mt_3 (List.mem_of_getElem? (i := 222) (by decide +kernel))) rfl
theorem czX11_better : Cond.code yX11_better cX11_better 6 (some .int) ∈ lwG := w_3_222
theorem azX11_better : ∀ w ∈ wzX11_better, w ∈ lwG := List.forall_mem_cons.mpr ⟨w_3_222, fun _ h => h⟩
def wzX11_stone : List Cond := Cond.code yX11_stone cX11_stone 4 (some .int) :: lwG
theorem w_3_226 : Cond.code yX11_stone cX11_stone 4 (some .int) ∈ lwG := lwG_of (mt_3 (List.mem_of_getElem? (i := 226) (by decide +kernel))) rfl
theorem czX11_stone : Cond.code yX11_stone cX11_stone 4 (some .int) ∈ lwG := w_3_226
theorem azX11_stone : ∀ w ∈ wzX11_stone, w ∈ lwG := List.forall_mem_cons.mpr ⟨w_3_226, fun _ h => h⟩
def wzX11_span : List Cond := Cond.code yX11_span cX11_span 6 (some .int) :: lwG
theorem w_3_230 : Cond.code yX11_span cX11_span 6 (some .int) ∈ lwG := lwG_of (mt_3 (List.mem_of_getElem? (i := 230) (by decide +kernel))) rfl
theorem czX11_span : Cond.code yX11_span cX11_span 6 (some .int) ∈ lwG := w_3_230
theorem azX11_span : ∀ w ∈ wzX11_span, w ∈ lwG := List.forall_mem_cons.mpr ⟨w_3_230, fun _ h => h⟩
def wzX11_balance : List Cond := Cond.code yX11_balance cX11_balance 3 (some .long) :: lwG
theorem w_4_22 : Cond.code yX11_balance cX11_balance 3 (some .long) ∈ lwG := lwG_of (mt_4 (List.mem_of_getElem? (i := 22) (by decide +kernel))) rfl
theorem czX11_balance : Cond.code yX11_balance cX11_balance 3 (some .long) ∈ lwG := w_4_22
theorem azX11_balance : ∀ w ∈ wzX11_balance, w ∈ lwG := List.forall_mem_cons.mpr ⟨w_4_22, fun _ h => h⟩
def wzX11_fewest : List Cond := Cond.code yX11_fewest cX11_fewest 2 (some .int) :: lwG
theorem w_4_45 : Cond.code yX11_fewest cX11_fewest 2 (some .int) ∈ lwG := lwG_of (mt_4 (List.mem_of_getElem? (i := 45) (by decide +kernel))) rfl
theorem czX11_fewest : Cond.code yX11_fewest cX11_fewest 2 (some .int) ∈ lwG := w_4_45
theorem azX11_fewest : ∀ w ∈ wzX11_fewest, w ∈ lwG := List.forall_mem_cons.mpr ⟨w_4_45, fun _ h => h⟩
def wzX11_ring : List Cond := Cond.code yX11_ring cX11_ring 4 (some .int) :: lwG
theorem w_4_62 : Cond.code yX11_ring cX11_ring 4 (some .int) ∈ lwG := lwG_of (mt_4 (List.mem_of_getElem? (i := 62) (by decide +kernel))) rfl
theorem czX11_ring : Cond.code yX11_ring cX11_ring 4 (some .int) ∈ lwG := w_4_62
theorem azX11_ring : ∀ w ∈ wzX11_ring, w ∈ lwG := List.forall_mem_cons.mpr ⟨w_4_62, fun _ h => h⟩
def wzX11_names : List Cond := Cond.code yX11_names cX11_names 2 (some .int) :: lwG
theorem w_4_100 : Cond.code yX11_names cX11_names 2 (some .int) ∈ lwG := lwG_of (mt_4 (List.mem_of_getElem? (i := 100) (by decide +kernel))) rfl
theorem czX11_names : Cond.code yX11_names cX11_names 2 (some .int) ∈ lwG := w_4_100
theorem azX11_names : ∀ w ∈ wzX11_names, w ∈ lwG := List.forall_mem_cons.mpr ⟨w_4_100, fun _ h => h⟩
def wzX11_ahead : List Cond := Cond.code yX11_ahead cX11_ahead 4 (some .int) :: lwG
theorem w_4_108 : Cond.code yX11_ahead cX11_ahead 4 (some .int) ∈ lwG := lwG_of (mt_4 (List.mem_of_getElem? (i := 108) (by decide +kernel))) rfl
theorem czX11_ahead : Cond.code yX11_ahead cX11_ahead 4 (some .int) ∈ lwG := w_4_108
theorem azX11_ahead : ∀ w ∈ wzX11_ahead, w ∈ lwG := List.forall_mem_cons.mpr ⟨w_4_108, fun _ h => h⟩
def wzX11_orders : List Cond := Cond.code yX11_orders cX11_orders 2 (some .int) :: lwG
theorem w_4_116 : Cond.code yX11_orders cX11_orders 2 (some .int) ∈ lwG := lwG_of (mt_4 (List.mem_of_getElem? (i := 116) (by decide +kernel))) rfl
theorem czX11_orders : Cond.code yX11_orders cX11_orders 2 (some .int) ∈ lwG := w_4_116
theorem azX11_orders : ∀ w ∈ wzX11_orders, w ∈ lwG := List.forall_mem_cons.mpr ⟨w_4_116, fun _ h => h⟩
def wzX11_place : List Cond := Cond.code yX11_place cX11_place 4 (some .int) :: lwG
theorem w_4_135 : Cond.code yX11_place cX11_place 4 (some .int) ∈ lwG := lwG_of (mt_4 (List.mem_of_getElem? (i := 135) (by decide +kernel))) rfl
theorem czX11_place : Cond.code yX11_place cX11_place 4 (some .int) ∈ lwG := w_4_135
theorem azX11_place : ∀ w ∈ wzX11_place, w ∈ lwG := List.forall_mem_cons.mpr ⟨w_4_135, fun _ h => h⟩
def wzX11_order : List Cond := Cond.code yX11_order cX11_order 3 (some .int) :: lwG
theorem w_4_161 : Cond.code yX11_order cX11_order 3 (some .int) ∈ lwG := lwG_of (mt_4 (List.mem_of_getElem? (i := 161) (by decide +kernel))) rfl
theorem czX11_order : Cond.code yX11_order cX11_order 3 (some .int) ∈ lwG := w_4_161
theorem azX11_order : ∀ w ∈ wzX11_order, w ∈ lwG := List.forall_mem_cons.mpr ⟨w_4_161, fun _ h => h⟩
def wzX11_letter : List Cond := Cond.code yX11_letter cX11_letter 6 (some .int) :: lwG
theorem w_4_169 : Cond.code yX11_letter cX11_letter 6 (some .int) ∈ lwG := lwG_of (mt_4 (List.mem_of_getElem? (i := 169) (by decide +kernel))) rfl
theorem czX11_letter : Cond.code yX11_letter cX11_letter 6 (some .int) ∈ lwG := w_4_169
theorem azX11_letter : ∀ w ∈ wzX11_letter, w ∈ lwG := List.forall_mem_cons.mpr ⟨w_4_169, fun _ h => h⟩
def wzX11_knows : List Cond := Cond.code yX11_knows cX11_knows 4 (some .int) :: lwG
theorem w_4_173 : Cond.code yX11_knows cX11_knows 4 (some .int) ∈ lwG := lwG_of (mt_4 (List.mem_of_getElem? (i := 173) (by decide +kernel))) rfl
theorem czX11_knows : Cond.code yX11_knows cX11_knows 4 (some .int) ∈ lwG := w_4_173
theorem azX11_knows : ∀ w ∈ wzX11_knows, w ∈ lwG := List.forall_mem_cons.mpr ⟨w_4_173, fun _ h => h⟩
def wzX11_carries : List Cond := Cond.code yX11_carries cX11_carries 2 (some .int) :: lwG
theorem w_4_192 : Cond.code yX11_carries cX11_carries 2 (some .int) ∈ lwG := lwG_of (mt_4 (List.mem_of_getElem? (i := 192) (by decide +kernel))) rfl
theorem czX11_carries : Cond.code yX11_carries cX11_carries 2 (some .int) ∈ lwG := w_4_192
theorem azX11_carries : ∀ w ∈ wzX11_carries, w ∈ lwG := List.forall_mem_cons.mpr ⟨w_4_192, fun _ h => h⟩
def wzX11_mention : List Cond := Cond.code yX11_mention cX11_mention 4 (some .int) :: lwG
theorem w_4_197 : Cond.code yX11_mention cX11_mention 4 (some .int) ∈ lwG := lwG_of (mt_4 (List.mem_of_getElem? (i := 197) (by decide +kernel))) rfl
theorem czX11_mention : Cond.code yX11_mention cX11_mention 4 (some .int) ∈ lwG := w_4_197
theorem azX11_mention : ∀ w ∈ wzX11_mention, w ∈ lwG := List.forall_mem_cons.mpr ⟨w_4_197, fun _ h => h⟩
def wzX11_men : List Cond := Cond.code yX11_men cX11_men 3 (some .int) :: lwG
theorem w_4_201 : Cond.code yX11_men cX11_men 3 (some .int) ∈ lwG := lwG_of (mt_4 (List.mem_of_getElem? (i := 201) (by decide +kernel))) rfl
theorem czX11_men : Cond.code yX11_men cX11_men 3 (some .int) ∈ lwG := w_4_201
theorem azX11_men : ∀ w ∈ wzX11_men, w ∈ lwG := List.forall_mem_cons.mpr ⟨w_4_201, fun _ h => h⟩
def wzX11_load : List Cond := Cond.code yX11_load cX11_load 4 (some .int) :: lwG
theorem w_5_2 : Cond.code yX11_load cX11_load 4 (some .int) ∈ lwG := lwG_of (mt_5 (List.mem_of_getElem? (i := 2) (by decide +kernel))) rfl
theorem czX11_load : Cond.code yX11_load cX11_load 4 (some .int) ∈ lwG := w_5_2
theorem azX11_load : ∀ w ∈ wzX11_load, w ∈ lwG := List.forall_mem_cons.mpr ⟨w_5_2, fun _ h => h⟩
def wzX11_unload : List Cond := Cond.code yX11_unload cX11_unload 2 (some .int) :: lwG
theorem w_5_6 : Cond.code yX11_unload cX11_unload 2 (some .int) ∈ lwG := lwG_of (mt_5 (List.mem_of_getElem? (i := 6) (by decide +kernel))) rfl
theorem czX11_unload : Cond.code yX11_unload cX11_unload 2 (some .int) ∈ lwG := w_5_6
theorem azX11_unload : ∀ w ∈ wzX11_unload, w ∈ lwG := List.forall_mem_cons.mpr ⟨w_5_6, fun _ h => h⟩
def wzX11_price : List Cond := Cond.code yX11_price cX11_price 4 (some .int) :: lwG
theorem w_5_10 : Cond.code yX11_price cX11_price 4 (some .int) ∈ lwG := lwG_of (mt_5 (List.mem_of_getElem? (i := 10) (by decide +kernel))) rfl
theorem czX11_price : Cond.code yX11_price cX11_price 4 (some .int) ∈ lwG := w_5_10
theorem azX11_price : ∀ w ∈ wzX11_price, w ∈ lwG := List.forall_mem_cons.mpr ⟨w_5_10, fun _ h => h⟩
def wzX11_plan : List Cond := Cond.code yX11_plan cX11_plan 3 (some .long) :: lwG
theorem w_5_14 : Cond.code yX11_plan cX11_plan 3 (some .long) ∈ lwG := lwG_of (mt_5 (List.mem_of_getElem? (i := 14) (by decide +kernel))) rfl
theorem czX11_plan : Cond.code yX11_plan cX11_plan 3 (some .long) ∈ lwG := w_5_14
theorem azX11_plan : ∀ w ∈ wzX11_plan, w ∈ lwG := List.forall_mem_cons.mpr ⟨w_5_14, fun _ h => h⟩
def wzX11_part : List Cond := Cond.code yX11_part cX11_part 2 (some .long) :: lwG
theorem w_5_50 : Cond.code yX11_part cX11_part 2 (some .long) ∈ lwG := lwG_of (mt_5 (List.mem_of_getElem? (i := 50) (by decide +kernel))) rfl
theorem czX11_part : Cond.code yX11_part cX11_part 2 (some .long) ∈ lwG := w_5_50
theorem azX11_part : ∀ w ∈ wzX11_part, w ∈ lwG := List.forall_mem_cons.mpr ⟨w_5_50, fun _ h => h⟩
def wzX11_image : List Cond := Cond.code yX11_image cX11_image 3 (some .int) :: lwG
theorem w_5_55 : Cond.code yX11_image cX11_image 3 (some .int) ∈ lwG := lwG_of (mt_5 (List.mem_of_getElem? (i := 55) (by decide +kernel))) rfl
theorem czX11_image : Cond.code yX11_image cX11_image 3 (some .int) ∈ lwG := w_5_55
theorem azX11_image : ∀ w ∈ wzX11_image, w ∈ lwG := List.forall_mem_cons.mpr ⟨w_5_55, fun _ h => h⟩
def wzX11_from : List Cond := Cond.code yX11_from cX11_from 3 (some .int) :: lwG
theorem w_5_71 : Cond.code yX11_from cX11_from 3 (some .int) ∈ lwG := lwG_of (mt_5 (List.mem_of_getElem? (i := 71) (by decide +kernel))) rfl
theorem czX11_from : Cond.code yX11_from cX11_from 3 (some .int) ∈ lwG := w_5_71
theorem azX11_from : ∀ w ∈ wzX11_from, w ∈ lwG := List.forall_mem_cons.mpr ⟨w_5_71, fun _ h => h⟩
def wzX11_count : List Cond := Cond.code yX11_count cX11_count 2 (some .int) :: lwG
theorem w_5_75 : Cond.code yX11_count cX11_count 2 (some .int) ∈ lwG := lwG_of (mt_5 (List.mem_of_getElem? (i := 75) (by decide +kernel))) rfl
theorem czX11_count : Cond.code yX11_count cX11_count 2 (some .int) ∈ lwG := w_5_75
theorem azX11_count : ∀ w ∈ wzX11_count, w ∈ lwG := List.forall_mem_cons.mpr ⟨w_5_75, fun _ h => h⟩
def wzX11_digest : List Cond := Cond.code yX11_digest cX11_digest 4 (some .long) :: lwG
theorem w_5_83 : Cond.code yX11_digest cX11_digest 4 (some .long) ∈ lwG := lwG_of (mt_5 (List.mem_of_getElem? (i := 83) (by decide +kernel))) rfl
theorem czX11_digest : Cond.code yX11_digest cX11_digest 4 (some .long) ∈ lwG := w_5_83
theorem azX11_digest : ∀ w ∈ wzX11_digest, w ∈ lwG := List.forall_mem_cons.mpr ⟨w_5_83, fun _ h => h⟩
def wzX11_isOut : List Cond := Cond.code yX11_isOut cX11_isOut 3 (some .boolean) :: lwG
theorem w_2_179 : Cond.code yX11_isOut cX11_isOut 3 (some .boolean) ∈ lwG := lwG_of (mt_2 (List.mem_of_getElem? (i := 179) (by decide +kernel))) rfl
theorem czX11_isOut : Cond.code yX11_isOut cX11_isOut 3 (some .boolean) ∈ lwG := w_2_179
theorem azX11_isOut : ∀ w ∈ wzX11_isOut, w ∈ lwG := List.forall_mem_cons.mpr ⟨w_2_179, fun _ h => h⟩
def wzX11_isOutOfSeasons : List Cond := Cond.code yX11_isOutOfSeasons cX11_isOutOfSeasons 1 (some .boolean) :: lwG
theorem w_3_29 : Cond.code yX11_isOutOfSeasons cX11_isOutOfSeasons 1 (some .boolean) ∈ lwG := lwG_of (mt_3 (List.mem_of_getElem? (i := 29) (by decide +kernel))) rfl
theorem czX11_isOutOfSeasons : Cond.code yX11_isOutOfSeasons cX11_isOutOfSeasons 1 (some .boolean) ∈ lwG := w_3_29
theorem azX11_isOutOfSeasons : ∀ w ∈ wzX11_isOutOfSeasons, w ∈ lwG := List.forall_mem_cons.mpr ⟨w_3_29, fun _ h => h⟩
def wzX11_isNoMerchant : List Cond := Cond.code yX11_isNoMerchant cX11_isNoMerchant 2 (some .boolean) :: lwG
theorem w_3_80 : Cond.code yX11_isNoMerchant cX11_isNoMerchant 2 (some .boolean) ∈ lwG := lwG_of (mt_3 (List.mem_of_getElem? (i := 80) (by decide +kernel))) rfl
theorem czX11_isNoMerchant : Cond.code yX11_isNoMerchant cX11_isNoMerchant 2 (some .boolean) ∈ lwG := w_3_80
theorem azX11_isNoMerchant : ∀ w ∈ wzX11_isNoMerchant, w ∈ lwG := List.forall_mem_cons.mpr ⟨w_3_80, fun _ h => h⟩
def wzX11_isNoDebt : List Cond := Cond.code yX11_isNoDebt cX11_isNoDebt 2 (some .boolean) :: lwG
theorem w_3_89 : Cond.code yX11_isNoDebt cX11_isNoDebt 2 (some .boolean) ∈ lwG := lwG_of (mt_3 (List.mem_of_getElem? (i := 89) (by decide +kernel))) rfl
theorem czX11_isNoDebt : Cond.code yX11_isNoDebt cX11_isNoDebt 2 (some .boolean) ∈ lwG := w_3_89
theorem azX11_isNoDebt : ∀ w ∈ wzX11_isNoDebt, w ∈ lwG := List.forall_mem_cons.mpr ⟨w_3_89, fun _ h => h⟩
def wzX11_isNoPurse : List Cond := Cond.code yX11_isNoPurse cX11_isNoPurse 2 (some .boolean) :: lwG
theorem w_3_157 : Cond.code yX11_isNoPurse cX11_isNoPurse 2 (some .boolean) ∈ lwG := lwG_of (mt_3 (List.mem_of_getElem? (i := 157) (by decide +kernel))) rfl
theorem czX11_isNoPurse : Cond.code yX11_isNoPurse cX11_isNoPurse 2 (some .boolean) ∈ lwG := w_3_157
theorem azX11_isNoPurse : ∀ w ∈ wzX11_isNoPurse, w ∈ lwG := List.forall_mem_cons.mpr ⟨w_3_157, fun _ h => h⟩
def wzX11_isNoName : List Cond := Cond.code yX11_isNoName cX11_isNoName 2 (some .boolean) :: lwG
theorem w_4_112 : Cond.code yX11_isNoName cX11_isNoName 2 (some .boolean) ∈ lwG := lwG_of (mt_4 (List.mem_of_getElem? (i := 112) (by decide +kernel))) rfl
theorem czX11_isNoName : Cond.code yX11_isNoName cX11_isNoName 2 (some .boolean) ∈ lwG := w_4_112
theorem azX11_isNoName : ∀ w ∈ wzX11_isNoName, w ∈ lwG := List.forall_mem_cons.mpr ⟨w_4_112, fun _ h => h⟩
def wzX11_isNoLoad : List Cond := Cond.code yX11_isNoLoad cX11_isNoLoad 3 (some .boolean) :: lwG
theorem w_3_196 : Cond.code yX11_isNoLoad cX11_isNoLoad 3 (some .boolean) ∈ lwG := lwG_of (mt_3 (List.mem_of_getElem? (i := 196) (by decide +kernel))) rfl
theorem czX11_isNoLoad : Cond.code yX11_isNoLoad cX11_isNoLoad 3 (some .boolean) ∈ lwG := w_3_196
theorem azX11_isNoLoad : ∀ w ∈ wzX11_isNoLoad, w ∈ lwG := List.forall_mem_cons.mpr ⟨w_3_196, fun _ h => h⟩
def wzX11_setFraction : List Cond := Cond.code yX11_setFraction cX11_setFraction 7 none :: lwG
theorem w_3_215 : Cond.code yX11_setFraction cX11_setFraction 7 none ∈ lwG := lwG_of (mt_3 (List.mem_of_getElem? (i := 215) (by decide +kernel))) rfl
theorem czX11_setFraction : Cond.code yX11_setFraction cX11_setFraction 7 none ∈ lwG := w_3_215
theorem azX11_setFraction : ∀ w ∈ wzX11_setFraction, w ∈ lwG := List.forall_mem_cons.mpr ⟨w_3_215, fun _ h => h⟩
def wzX11_greatestDivisor : List Cond := Cond.code yX11_greatestDivisor cX11_greatestDivisor 11 (some .long) :: lwG
theorem w_3_218 : Cond.code yX11_greatestDivisor cX11_greatestDivisor 11 (some .long) ∈ lwG := lwG_of (mt_3 (List.mem_of_getElem? (i := 218) (by decide +kernel))) rfl
theorem czX11_greatestDivisor : Cond.code yX11_greatestDivisor cX11_greatestDivisor 11 (some .long) ∈ lwG := w_3_218
theorem azX11_greatestDivisor : ∀ w ∈ wzX11_greatestDivisor, w ∈ lwG := List.forall_mem_cons.mpr ⟨w_3_218, fun _ h => h⟩
def wzX12_in : List Cond := Cond.code yX12_in cX12_in 6 (some .boolean) :: lwG
theorem w_5_199 : Cond.code yX12_in cX12_in 6 (some .boolean) ∈ lwG := lwG_of (mt_5 (List.mem_of_getElem? (i := 199) (by decide +kernel))) rfl
theorem czX12_in : Cond.code yX12_in cX12_in 6 (some .boolean) ∈ lwG := w_5_199
theorem azX12_in : ∀ w ∈ wzX12_in, w ∈ lwG := List.forall_mem_cons.mpr ⟨w_5_199, fun _ h => h⟩
def wzX12_init : List Cond := Cond.code yX12_init cX12_init 1 none :: lwG
theorem w_5_113 : Cond.code yX12_init cX12_init 1 none ∈ lwG := lwG_of (mt_5 (List.mem_of_getElem? (i := 113) (by decide +kernel))) rfl
theorem czX12_init : Cond.code yX12_init cX12_init 1 none ∈ lwG := w_5_113
theorem azX12_init : ∀ w ∈ wzX12_init, w ∈ lwG := List.forall_mem_cons.mpr ⟨w_5_113, fun _ h => h⟩
def wzX12_is : List Cond := Cond.code yX12_is cX12_is 3 (some .boolean) :: lwG
theorem w_6_62 : Cond.code yX12_is cX12_is 3 (some .boolean) ∈ lwG := lwG_of (mt_6 (List.mem_of_getElem? (i := 62) (by decide +kernel))) rfl
theorem czX12_is : Cond.code yX12_is cX12_is 3 (some .boolean) ∈ lwG := w_6_62
theorem azX12_is : ∀ w ∈ wzX12_is, w ∈ lwG := List.forall_mem_cons.mpr ⟨w_6_62, fun _ h => h⟩
def wzX12_one : List Cond := Cond.code yX12_one cX12_one 2 (some .int) :: lwG
theorem w_5_203 : Cond.code yX12_one cX12_one 2 (some .int) ∈ lwG := lwG_of (mt_5 (List.mem_of_getElem? (i := 203) (by decide +kernel))) rfl
theorem czX12_one : Cond.code yX12_one cX12_one 2 (some .int) ∈ lwG := w_5_203
theorem azX12_one : ∀ w ∈ wzX12_one, w ∈ lwG := List.forall_mem_cons.mpr ⟨w_5_203, fun _ h => h⟩
def wzX12_puts : List Cond := Cond.code yX12_puts cX12_puts 4 (some .int) :: lwG
theorem w_5_220 : Cond.code yX12_puts cX12_puts 4 (some .int) ∈ lwG := lwG_of (mt_5 (List.mem_of_getElem? (i := 220) (by decide +kernel))) rfl
theorem czX12_puts : Cond.code yX12_puts cX12_puts 4 (some .int) ∈ lwG := w_5_220
theorem azX12_puts : ∀ w ∈ wzX12_puts, w ∈ lwG := List.forall_mem_cons.mpr ⟨w_5_220, fun _ h => h⟩
def wzX12_isSeason : List Cond := Cond.code yX12_isSeason cX12_isSeason 1 (some .boolean) :: lwG
theorem w_6_27 : Cond.code yX12_isSeason cX12_isSeason 1 (some .boolean) ∈ lwG := lwG_of (mt_6 (List.mem_of_getElem? (i := 27) (by decide +kernel))) rfl
theorem czX12_isSeason : Cond.code yX12_isSeason cX12_isSeason 1 (some .boolean) ∈ lwG := w_6_27
theorem azX12_isSeason : ∀ w ∈ wzX12_isSeason, w ∈ lwG := List.forall_mem_cons.mpr ⟨w_6_27, fun _ h => h⟩
def wzX12_house : List Cond := Cond.code yX12_house cX12_house 2 (some .int) :: lwG
theorem w_6_95 : Cond.code yX12_house cX12_house 2 (some .int) ∈ lwG := lwG_of (mt_6 (List.mem_of_getElem? (i := 95) (by decide +kernel))) rfl
theorem czX12_house : Cond.code yX12_house cX12_house 2 (some .int) ∈ lwG := w_6_95
theorem azX12_house : ∀ w ∈ wzX12_house, w ∈ lwG := List.forall_mem_cons.mpr ⟨w_6_95, fun _ h => h⟩
def wzX12_town : List Cond := Cond.code yX12_town cX12_town 2 (some .int) :: lwG
theorem w_6_99 : Cond.code yX12_town cX12_town 2 (some .int) ∈ lwG := lwG_of (mt_6 (List.mem_of_getElem? (i := 99) (by decide +kernel))) rfl
theorem czX12_town : Cond.code yX12_town cX12_town 2 (some .int) ∈ lwG := w_6_99
theorem azX12_town : ∀ w ∈ wzX12_town, w ∈ lwG := List.forall_mem_cons.mpr ⟨w_6_99, fun _ h => h⟩
def wzX12_kin : List Cond := Cond.code yX12_kin cX12_kin 3 (some .int) :: lwG
theorem w_6_91 : Cond.code yX12_kin cX12_kin 3 (some .int) ∈ lwG := lwG_of (mt_6 (List.mem_of_getElem? (i := 91) (by decide +kernel))) rfl
theorem czX12_kin : Cond.code yX12_kin cX12_kin 3 (some .int) ∈ lwG := w_6_91
theorem azX12_kin : ∀ w ∈ wzX12_kin, w ∈ lwG := List.forall_mem_cons.mpr ⟨w_6_91, fun _ h => h⟩
def wzX12_merchant : List Cond := Cond.code yX12_merchant cX12_merchant 3 (some .int) :: lwG
theorem w_5_195 : Cond.code yX12_merchant cX12_merchant 3 (some .int) ∈ lwG := lwG_of (mt_5 (List.mem_of_getElem? (i := 195) (by decide +kernel))) rfl
theorem czX12_merchant : Cond.code yX12_merchant cX12_merchant 3 (some .int) ∈ lwG := w_5_195
theorem azX12_merchant : ∀ w ∈ wzX12_merchant, w ∈ lwG := List.forall_mem_cons.mpr ⟨w_5_195, fun _ h => h⟩
def wzX12_emits : List Cond := Cond.code yX12_emits cX12_emits 3 none :: lwG
theorem w_6_3 : Cond.code yX12_emits cX12_emits 3 none ∈ lwG := lwG_of (mt_6 (List.mem_of_getElem? (i := 3) (by decide +kernel))) rfl
theorem czX12_emits : Cond.code yX12_emits cX12_emits 3 none ∈ lwG := w_6_3
theorem azX12_emits : ∀ w ∈ wzX12_emits, w ∈ lwG := List.forall_mem_cons.mpr ⟨w_6_3, fun _ h => h⟩
def wzX12_holds : List Cond := Cond.code yX12_holds cX12_holds 1 (some .int) :: lwG
theorem w_5_239 : Cond.code yX12_holds cX12_holds 1 (some .int) ∈ lwG := lwG_of (mt_5 (List.mem_of_getElem? (i := 239) (by decide +kernel))) rfl
theorem czX12_holds : Cond.code yX12_holds cX12_holds 1 (some .int) ∈ lwG := w_5_239
theorem azX12_holds : ∀ w ∈ wzX12_holds, w ∈ lwG := List.forall_mem_cons.mpr ⟨w_5_239, fun _ h => h⟩
def wzX12_settles : List Cond := Cond.code yX12_settles cX12_settles 2 none :: lwG
theorem w_5_236 : Cond.code yX12_settles cX12_settles 2 none ∈ lwG := lwG_of (mt_5 (List.mem_of_getElem? (i := 236) (by decide +kernel))) rfl
theorem czX12_settles : Cond.code yX12_settles cX12_settles 2 none ∈ lwG := w_5_236
theorem azX12_settles : ∀ w ∈ wzX12_settles, w ∈ lwG := List.forall_mem_cons.mpr ⟨w_5_236, fun _ h => h⟩
def wzX12_waitsWith : List Cond := Cond.code yX12_waitsWith cX12_waitsWith 2 none :: lwG
theorem w_6_7 : Cond.code yX12_waitsWith cX12_waitsWith 2 none ∈ lwG := lwG_of (mt_6 (List.mem_of_getElem? (i := 7) (by decide +kernel))) rfl
theorem czX12_waitsWith : Cond.code yX12_waitsWith cX12_waitsWith 2 none ∈ lwG := w_6_7
theorem azX12_waitsWith : ∀ w ∈ wzX12_waitsWith, w ∈ lwG := List.forall_mem_cons.mpr ⟨w_6_7, fun _ h => h⟩
def wzX12_nameOf : List Cond := Cond.code yX12_nameOf cX12_nameOf 1 (some .int) :: lwG
theorem w_6_19 : Cond.code yX12_nameOf cX12_nameOf 1 (some .int) ∈ lwG := lwG_of (mt_6 (List.mem_of_getElem? (i := 19) (by decide +kernel))) rfl
theorem czX12_nameOf : Cond.code yX12_nameOf cX12_nameOf 1 (some .int) ∈ lwG := w_6_19
theorem azX12_nameOf : ∀ w ∈ wzX12_nameOf, w ∈ lwG := List.forall_mem_cons.mpr ⟨w_6_19, fun _ h => h⟩
def wzX12_signOf : List Cond := Cond.code yX12_signOf cX12_signOf 1 (some .int) :: lwG
theorem w_6_10 : Cond.code yX12_signOf cX12_signOf 1 (some .int) ∈ lwG := lwG_of (mt_6 (List.mem_of_getElem? (i := 10) (by decide +kernel))) rfl
theorem czX12_signOf : Cond.code yX12_signOf cX12_signOf 1 (some .int) ∈ lwG := w_6_10
theorem azX12_signOf : ∀ w ∈ wzX12_signOf, w ∈ lwG := List.forall_mem_cons.mpr ⟨w_6_10, fun _ h => h⟩
def wzX12_closes : List Cond := Cond.code yX12_closes cX12_closes 1 (some .int) :: lwG
theorem w_5_232 : Cond.code yX12_closes cX12_closes 1 (some .int) ∈ lwG := lwG_of (mt_5 (List.mem_of_getElem? (i := 232) (by decide +kernel))) rfl
theorem czX12_closes : Cond.code yX12_closes cX12_closes 1 (some .int) ∈ lwG := w_5_232
theorem azX12_closes : ∀ w ∈ wzX12_closes, w ∈ lwG := List.forall_mem_cons.mpr ⟨w_5_232, fun _ h => h⟩
def wzX12_goesOn : List Cond := Cond.code yX12_goesOn cX12_goesOn 3 (some .boolean) :: lwG
theorem w_6_14 : Cond.code yX12_goesOn cX12_goesOn 3 (some .boolean) ∈ lwG := lwG_of (mt_6 (List.mem_of_getElem? (i := 14) (by decide +kernel))) rfl
theorem czX12_goesOn : Cond.code yX12_goesOn cX12_goesOn 3 (some .boolean) ∈ lwG := w_6_14
theorem azX12_goesOn : ∀ w ∈ wzX12_goesOn, w ∈ lwG := List.forall_mem_cons.mpr ⟨w_6_14, fun _ h => h⟩
def wzX12_reads : List Cond := Cond.code yX12_reads cX12_reads 9 (some .int) :: lwG
theorem w_5_228 : Cond.code yX12_reads cX12_reads 9 (some .int) ∈ lwG := lwG_of (mt_5 (List.mem_of_getElem? (i := 228) (by decide +kernel))) rfl
theorem czX12_reads : Cond.code yX12_reads cX12_reads 9 (some .int) ∈ lwG := w_5_228
theorem azX12_reads : ∀ w ∈ wzX12_reads, w ∈ lwG := List.forall_mem_cons.mpr ⟨w_5_228, fun _ h => h⟩
def wzX12_twoOf : List Cond := Cond.code yX12_twoOf cX12_twoOf 5 (some .long) :: lwG
theorem w_6_41 : Cond.code yX12_twoOf cX12_twoOf 5 (some .long) ∈ lwG := lwG_of (mt_6 (List.mem_of_getElem? (i := 41) (by decide +kernel))) rfl
theorem czX12_twoOf : Cond.code yX12_twoOf cX12_twoOf 5 (some .long) ∈ lwG := w_6_41
theorem azX12_twoOf : ∀ w ∈ wzX12_twoOf, w ∈ lwG := List.forall_mem_cons.mpr ⟨w_6_41, fun _ h => h⟩
def wzX12_tellsOf : List Cond := Cond.code yX12_tellsOf cX12_tellsOf 4 (some .long) :: lwG
theorem w_6_38 : Cond.code yX12_tellsOf cX12_tellsOf 4 (some .long) ∈ lwG := lwG_of (mt_6 (List.mem_of_getElem? (i := 38) (by decide +kernel))) rfl
theorem czX12_tellsOf : Cond.code yX12_tellsOf cX12_tellsOf 4 (some .long) ∈ lwG := w_6_38
theorem azX12_tellsOf : ∀ w ∈ wzX12_tellsOf, w ∈ lwG := List.forall_mem_cons.mpr ⟨w_6_38, fun _ h => h⟩
def wzX12_gives : List Cond := Cond.code yX12_gives cX12_gives 7 none :: lwG
theorem w_6_34 : Cond.code yX12_gives cX12_gives 7 none ∈ lwG := lwG_of (mt_6 (List.mem_of_getElem? (i := 34) (by decide +kernel))) rfl
theorem czX12_gives : Cond.code yX12_gives cX12_gives 7 none ∈ lwG := w_6_34
theorem azX12_gives : ∀ w ∈ wzX12_gives, w ∈ lwG := List.forall_mem_cons.mpr ⟨w_6_34, fun _ h => h⟩
def wzX12_isText : List Cond := Cond.code yX12_isText cX12_isText 1 (some .boolean) :: lwG
theorem w_5_210 : Cond.code yX12_isText cX12_isText 1 (some .boolean) ∈ lwG := lwG_of (mt_5 (List.mem_of_getElem? (i := 210) (by decide +kernel))) rfl
theorem czX12_isText : Cond.code yX12_isText cX12_isText 1 (some .boolean) ∈ lwG := w_5_210
theorem azX12_isText : ∀ w ∈ wzX12_isText, w ∈ lwG := List.forall_mem_cons.mpr ⟨w_5_210, fun _ h => h⟩
def wzX12_write : List Cond := Cond.code yX12_write cX12_write 4 (some .int) :: lwG
theorem w_5_207 : Cond.code yX12_write cX12_write 4 (some .int) ∈ lwG := lwG_of (mt_5 (List.mem_of_getElem? (i := 207) (by decide +kernel))) rfl
theorem czX12_write : Cond.code yX12_write cX12_write 4 (some .int) ∈ lwG := w_5_207
theorem azX12_write : ∀ w ∈ wzX12_write, w ∈ lwG := List.forall_mem_cons.mpr ⟨w_5_207, fun _ h => h⟩
def wzX12_erase : List Cond := Cond.code yX12_erase cX12_erase 2 (some .int) :: lwG
theorem w_5_216 : Cond.code yX12_erase cX12_erase 2 (some .int) ∈ lwG := lwG_of (mt_5 (List.mem_of_getElem? (i := 216) (by decide +kernel))) rfl
theorem czX12_erase : Cond.code yX12_erase cX12_erase 2 (some .int) ∈ lwG := w_5_216
theorem azX12_erase : ∀ w ∈ wzX12_erase, w ∈ lwG := List.forall_mem_cons.mpr ⟨w_5_216, fun _ h => h⟩
def wzX12_fault : List Cond := Cond.code yX12_fault cX12_fault 2 (some .int) :: lwG
theorem w_5_224 : Cond.code yX12_fault cX12_fault 2 (some .int) ∈ lwG := lwG_of (mt_5 (List.mem_of_getElem? (i := 224) (by decide +kernel))) rfl
theorem czX12_fault : Cond.code yX12_fault cX12_fault 2 (some .int) ∈ lwG := w_5_224
theorem azX12_fault : ∀ w ∈ wzX12_fault, w ∈ lwG := List.forall_mem_cons.mpr ⟨w_5_224, fun _ h => h⟩
def wzX12_tells : List Cond := Cond.code yX12_tells cX12_tells 8 (some .long) :: lwG
theorem w_6_23 : Cond.code yX12_tells cX12_tells 8 (some .long) ∈ lwG := lwG_of (mt_6 (List.mem_of_getElem? (i := 23) (by decide +kernel))) rfl
theorem czX12_tells : Cond.code yX12_tells cX12_tells 8 (some .long) ∈ lwG := w_6_23
theorem azX12_tells : ∀ w ∈ wzX12_tells, w ∈ lwG := List.forall_mem_cons.mpr ⟨w_6_23, fun _ h => h⟩
def wzX12_act : List Cond := Cond.code yX12_act cX12_act 6 (some .int) :: lwG
theorem w_6_45 : Cond.code yX12_act cX12_act 6 (some .int) ∈ lwG := lwG_of (mt_6 (List.mem_of_getElem? (i := 45) (by decide +kernel))) rfl
theorem czX12_act : Cond.code yX12_act cX12_act 6 (some .int) ∈ lwG := w_6_45
theorem azX12_act : ∀ w ∈ wzX12_act, w ∈ lwG := List.forall_mem_cons.mpr ⟨w_6_45, fun _ h => h⟩
def wzX12_inForce : List Cond := Cond.code yX12_inForce cX12_inForce 7 (some .int) :: lwG
theorem w_6_54 : Cond.code yX12_inForce cX12_inForce 7 (some .int) ∈ lwG := lwG_of (mt_6 (List.mem_of_getElem? (i := 54) (by decide +kernel))) rfl
theorem czX12_inForce : Cond.code yX12_inForce cX12_inForce 7 (some .int) ∈ lwG := w_6_54
theorem azX12_inForce : ∀ w ∈ wzX12_inForce, w ∈ lwG := List.forall_mem_cons.mpr ⟨w_6_54, fun _ h => h⟩
def wzX12_force : List Cond := Cond.code yX12_force cX12_force 3 (some .int) :: lwG
theorem w_6_50 : Cond.code yX12_force cX12_force 3 (some .int) ∈ lwG := lwG_of (mt_6 (List.mem_of_getElem? (i := 50) (by decide +kernel))) rfl
theorem czX12_force : Cond.code yX12_force cX12_force 3 (some .int) ∈ lwG := w_6_50
theorem azX12_force : ∀ w ∈ wzX12_force, w ∈ lwG := List.forall_mem_cons.mpr ⟨w_6_50, fun _ h => h⟩
def wzX12_told : List Cond := Cond.code yX12_told cX12_told 12 (some .int) :: lwG
theorem w_6_103 : Cond.code yX12_told cX12_told 12 (some .int) ∈ lwG := lwG_of (mt_6 (List.mem_of_getElem? (i := 103) (by decide +kernel))) rfl
theorem czX12_told : Cond.code yX12_told cX12_told 12 (some .int) ∈ lwG := w_6_103
theorem azX12_told : ∀ w ∈ wzX12_told, w ∈ lwG := List.forall_mem_cons.mpr ⟨w_6_103, fun _ h => h⟩
def wzX12_debtOf : List Cond := Cond.code yX12_debtOf cX12_debtOf 3 (some .int) :: lwG
theorem w_6_71 : Cond.code yX12_debtOf cX12_debtOf 3 (some .int) ∈ lwG := lwG_of (mt_6 (List.mem_of_getElem? (i := 71) (by decide +kernel))) rfl
theorem czX12_debtOf : Cond.code yX12_debtOf cX12_debtOf 3 (some .int) ∈ lwG := w_6_71
theorem azX12_debtOf : ∀ w ∈ wzX12_debtOf, w ∈ lwG := List.forall_mem_cons.mpr ⟨w_6_71, fun _ h => h⟩
def wzX12_debt : List Cond := Cond.code yX12_debt cX12_debt 7 (some .int) :: lwG
theorem w_6_58 : Cond.code yX12_debt cX12_debt 7 (some .int) ∈ lwG := lwG_of (mt_6 (List.mem_of_getElem? (i := 58) (by decide +kernel))) rfl
theorem czX12_debt : Cond.code yX12_debt cX12_debt 7 (some .int) ∈ lwG := w_6_58
theorem azX12_debt : ∀ w ∈ wzX12_debt, w ∈ lwG := List.forall_mem_cons.mpr ⟨w_6_58, fun _ h => h⟩
def wzX12_pay : List Cond := Cond.code yX12_pay cX12_pay 5 (some .int) :: lwG
theorem w_6_67 : Cond.code yX12_pay cX12_pay 5 (some .int) ∈ lwG := lwG_of (mt_6 (List.mem_of_getElem? (i := 67) (by decide +kernel))) rfl
theorem czX12_pay : Cond.code yX12_pay cX12_pay 5 (some .int) ∈ lwG := w_6_67
theorem azX12_pay : ∀ w ∈ wzX12_pay, w ∈ lwG := List.forall_mem_cons.mpr ⟨w_6_67, fun _ h => h⟩
def wzX12_seal : List Cond := Cond.code yX12_seal cX12_seal 3 (some .int) :: lwG
theorem w_6_75 : Cond.code yX12_seal cX12_seal 3 (some .int) ∈ lwG := lwG_of (mt_6 (List.mem_of_getElem? (i := 75) (by decide +kernel))) rfl
theorem czX12_seal : Cond.code yX12_seal cX12_seal 3 (some .int) ∈ lwG := w_6_75
theorem azX12_seal : ∀ w ∈ wzX12_seal, w ∈ lwG := List.forall_mem_cons.mpr ⟨w_6_75, fun _ h => h⟩
def wzX12_breaks : List Cond := Cond.code yX12_breaks cX12_breaks 3 (some .int) :: lwG
theorem w_6_79 : Cond.code yX12_breaks cX12_breaks 3 (some .int) ∈ lwG := lwG_of (mt_6 (List.mem_of_getElem? (i := 79) (by decide +kernel))) rfl
theorem czX12_breaks : Cond.code yX12_breaks cX12_breaks 3 (some .int) ∈ lwG := w_6_79
theorem azX12_breaks : ∀ w ∈ wzX12_breaks, w ∈ lwG := List.forall_mem_cons.mpr ⟨w_6_79, fun _ h => h⟩
def wzX12_owedOf : List Cond := Cond.code yX12_owedOf cX12_owedOf 10 (some .long) :: lwG
theorem w_6_87 : Cond.code yX12_owedOf cX12_owedOf 10 (some .long) ∈ lwG := lwG_of (mt_6 (List.mem_of_getElem? (i := 87) (by decide +kernel))) rfl
theorem czX12_owedOf : Cond.code yX12_owedOf cX12_owedOf 10 (some .long) ∈ lwG := w_6_87
theorem azX12_owedOf : ∀ w ∈ wzX12_owedOf, w ∈ lwG := List.forall_mem_cons.mpr ⟨w_6_87, fun _ h => h⟩
def wzX12_owed : List Cond := Cond.code yX12_owed cX12_owed 3 (some .long) :: lwG
theorem w_6_83 : Cond.code yX12_owed cX12_owed 3 (some .long) ∈ lwG := lwG_of (mt_6 (List.mem_of_getElem? (i := 83) (by decide +kernel))) rfl
theorem czX12_owed : Cond.code yX12_owed cX12_owed 3 (some .long) ∈ lwG := w_6_83
theorem azX12_owed : ∀ w ∈ wzX12_owed, w ∈ lwG := List.forall_mem_cons.mpr ⟨w_6_83, fun _ h => h⟩
def wzX12_purseOf : List Cond := Cond.code yX12_purseOf cX12_purseOf 3 (some .int) :: lwG
theorem w_6_124 : Cond.code yX12_purseOf cX12_purseOf 3 (some .int) ∈ lwG := lwG_of (mt_6 (List.mem_of_getElem? (i := 124) (by decide +kernel))) rfl
theorem czX12_purseOf : Cond.code yX12_purseOf cX12_purseOf 3 (some .int) ∈ lwG := w_6_124
theorem azX12_purseOf : ∀ w ∈ wzX12_purseOf, w ∈ lwG := List.forall_mem_cons.mpr ⟨w_6_124, fun _ h => h⟩
def wzX12_purse : List Cond := Cond.code yX12_purse cX12_purse 6 (some .int) :: lwG
theorem w_6_110 : Cond.code yX12_purse cX12_purse 6 (some .int) ∈ lwG := lwG_of (mt_6 (List.mem_of_getElem? (i := 110) (by decide +kernel))) rfl
theorem czX12_purse : Cond.code yX12_purse cX12_purse 6 (some .int) ∈ lwG := w_6_110
theorem azX12_purse : ∀ w ∈ wzX12_purse, w ∈ lwG := List.forall_mem_cons.mpr ⟨w_6_110, fun _ h => h⟩
def wzX12_shares : List Cond := Cond.code yX12_shares cX12_shares 4 (some .int) :: lwG
theorem w_6_120 : Cond.code yX12_shares cX12_shares 4 (some .int) ∈ lwG := lwG_of (mt_6 (List.mem_of_getElem? (i := 120) (by decide +kernel))) rfl
theorem czX12_shares : Cond.code yX12_shares cX12_shares 4 (some .int) ∈ lwG := w_6_120
theorem azX12_shares : ∀ w ∈ wzX12_shares, w ∈ lwG := List.forall_mem_cons.mpr ⟨w_6_120, fun _ h => h⟩
def wzX12_share : List Cond := Cond.code yX12_share cX12_share 4 (some .int) :: lwG
theorem w_6_115 : Cond.code yX12_share cX12_share 4 (some .int) ∈ lwG := lwG_of (mt_6 (List.mem_of_getElem? (i := 115) (by decide +kernel))) rfl
theorem czX12_share : Cond.code yX12_share cX12_share 4 (some .int) ∈ lwG := w_6_115
theorem azX12_share : ∀ w ∈ wzX12_share, w ∈ lwG := List.forall_mem_cons.mpr ⟨w_6_115, fun _ h => h⟩
def wzX12_leave : List Cond := Cond.code yX12_leave cX12_leave 7 (some .int) :: lwG
theorem w_6_128 : Cond.code yX12_leave cX12_leave 7 (some .int) ∈ lwG := lwG_of (mt_6 (List.mem_of_getElem? (i := 128) (by decide +kernel))) rfl
theorem czX12_leave : Cond.code yX12_leave cX12_leave 7 (some .int) ∈ lwG := w_6_128
theorem azX12_leave : ∀ w ∈ wzX12_leave, w ∈ lwG := List.forall_mem_cons.mpr ⟨w_6_128, fun _ h => h⟩
def wzX12_parted : List Cond := Cond.code yX12_parted cX12_parted 11 (some .int) :: lwG
theorem w_6_132 : Cond.code yX12_parted cX12_parted 11 (some .int) ∈ lwG := lwG_of (mt_6 (List.mem_of_getElem? (i := 132) (by decide +kernel))) rfl
theorem czX12_parted : Cond.code yX12_parted cX12_parted 11 (some .int) ∈ lwG := w_6_132
theorem azX12_parted : ∀ w ∈ wzX12_parted, w ∈ lwG := List.forall_mem_cons.mpr ⟨w_6_132, fun _ h => h⟩
def wzX12_gate : List Cond := Cond.code yX12_gate cX12_gate 2 (some .int) :: lwG
theorem w_6_137 : Cond.code yX12_gate cX12_gate 2 (some .int) ∈ lwG := lwG_of (mt_6 (List.mem_of_getElem? (i := 137) (by decide +kernel))) rfl
theorem czX12_gate : Cond.code yX12_gate cX12_gate 2 (some .int) ∈ lwG := w_6_137
theorem azX12_gate : ∀ w ∈ wzX12_gate, w ∈ lwG := List.forall_mem_cons.mpr ⟨w_6_137, fun _ h => h⟩
def wzX12_isWeight : List Cond := Cond.code yX12_isWeight cX12_isWeight 1 (some .boolean) :: lwG
theorem w_6_144 : Cond.code yX12_isWeight cX12_isWeight 1 (some .boolean) ∈ lwG := lwG_of (mt_6 (List.mem_of_getElem? (i := 144) (by decide +kernel))) rfl
theorem czX12_isWeight : Cond.code yX12_isWeight cX12_isWeight 1 (some .boolean) ∈ lwG := w_6_144
theorem azX12_isWeight : ∀ w ∈ wzX12_isWeight, w ∈ lwG := List.forall_mem_cons.mpr ⟨w_6_144, fun _ h => h⟩
def wzX12_wideOf : List Cond := Cond.code yX12_wideOf cX12_wideOf 8 (some .int) :: lwG
theorem w_6_148 : Cond.code yX12_wideOf cX12_wideOf 8 (some .int) ∈ lwG := lwG_of (mt_6 (List.mem_of_getElem? (i := 148) (by decide +kernel))) rfl
theorem czX12_wideOf : Cond.code yX12_wideOf cX12_wideOf 8 (some .int) ∈ lwG := w_6_148
theorem azX12_wideOf : ∀ w ∈ wzX12_wideOf, w ∈ lwG := List.forall_mem_cons.mpr ⟨w_6_148, fun _ h => h⟩
def wzX12_wide : List Cond := Cond.code yX12_wide cX12_wide 4 (some .int) :: lwG
theorem w_6_141 : Cond.code yX12_wide cX12_wide 4 (some .int) ∈ lwG := lwG_of (mt_6 (List.mem_of_getElem? (i := 141) (by decide +kernel))) rfl
theorem czX12_wide : Cond.code yX12_wide cX12_wide 4 (some .int) ∈ lwG := w_6_141
theorem azX12_wide : ∀ w ∈ wzX12_wide, w ∈ lwG := List.forall_mem_cons.mpr ⟨w_6_141, fun _ h => h⟩
def wzX12_narrow : List Cond := Cond.code yX12_narrow cX12_narrow 2 (some .int) :: lwG
theorem w_6_153 : Cond.code yX12_narrow cX12_narrow 2 (some .int) ∈ lwG := lwG_of (mt_6 (List.mem_of_getElem? (i := 153) (by decide +kernel))) rfl
theorem czX12_narrow : Cond.code yX12_narrow cX12_narrow 2 (some .int) ∈ lwG := w_6_153
theorem azX12_narrow : ∀ w ∈ wzX12_narrow, w ∈ lwG := List.forall_mem_cons.mpr ⟨w_6_153, fun _ h => h⟩
def wzX12_divisor : List Cond := Cond.code yX12_divisor cX12_divisor 10 (some .long) :: lwG
theorem w_6_164 : Cond.code yX12_divisor cX12_divisor 10 (some .long) ∈ lwG := lwG_of (mt_6 (List.mem_of_getElem? (i := 164) (by decide +kernel))) rfl
theorem czX12_divisor : Cond.code yX12_divisor cX12_divisor 10 (some .long) ∈ lwG := w_6_164
theorem azX12_divisor : ∀ w ∈ wzX12_divisor, w ∈ lwG := List.forall_mem_cons.mpr ⟨w_6_164, fun _ h => h⟩
def wzX12_tellsFraction : List Cond := Cond.code yX12_tellsFraction cX12_tellsFraction 7 (some .int) :: lwG
theorem w_6_161 : Cond.code yX12_tellsFraction cX12_tellsFraction 7 (some .int) ∈ lwG := lwG_of (mt_6 (List.mem_of_getElem? (i := 161) (by decide +kernel))) rfl
theorem czX12_tellsFraction : Cond.code yX12_tellsFraction cX12_tellsFraction 7 (some .int) ∈ lwG := w_6_161
theorem azX12_tellsFraction : ∀ w ∈ wzX12_tellsFraction, w ∈ lwG := List.forall_mem_cons.mpr ⟨w_6_161, fun _ h => h⟩
def wzX12_mean : List Cond := Cond.code yX12_mean cX12_mean 2 (some .int) :: lwG
theorem w_6_157 : Cond.code yX12_mean cX12_mean 2 (some .int) ∈ lwG := lwG_of (mt_6 (List.mem_of_getElem? (i := 157) (by decide +kernel))) rfl
theorem czX12_mean : Cond.code yX12_mean cX12_mean 2 (some .int) ∈ lwG := w_6_157
theorem azX12_mean : ∀ w ∈ wzX12_mean, w ∈ lwG := List.forall_mem_cons.mpr ⟨w_6_157, fun _ h => h⟩
def wzX12_better : List Cond := Cond.code yX12_better cX12_better 4 (some .int) :: lwG
theorem w_6_168 : Cond.code yX12_better cX12_better 4 (some .int) ∈ lwG := lwG_of (mt_6 (List.mem_of_getElem? (i := 168) (by decide +kernel))) rfl
theorem czX12_better : Cond.code yX12_better cX12_better 4 (some .int) ∈ lwG := w_6_168
theorem azX12_better : ∀ w ∈ wzX12_better, w ∈ lwG := List.forall_mem_cons.mpr ⟨w_6_168, fun _ h => h⟩
def wzX12_stone : List Cond := Cond.code yX12_stone cX12_stone 5 (some .int) :: lwG
theorem w_6_172 : Cond.code yX12_stone cX12_stone 5 (some .int) ∈ lwG := lwG_of (mt_6 (List.mem_of_getElem? (i := 172) (by decide +kernel))) rfl
theorem czX12_stone : Cond.code yX12_stone cX12_stone 5 (some .int) ∈ lwG := w_6_172
theorem azX12_stone : ∀ w ∈ wzX12_stone, w ∈ lwG := List.forall_mem_cons.mpr ⟨w_6_172, fun _ h => h⟩
def wzX12_span : List Cond := Cond.code yX12_span cX12_span 19 (some .int) :: lwG
theorem w_6_176 : Cond.code yX12_span cX12_span 19 (some .int) ∈ lwG := lwG_of (mt_6 (List.mem_of_getElem? (i := 176) (by decide +kernel))) rfl
theorem czX12_span : Cond.code yX12_span cX12_span 19 (some .int) ∈ lwG := w_6_176
theorem azX12_span : ∀ w ∈ wzX12_span, w ∈ lwG := List.forall_mem_cons.mpr ⟨w_6_176, fun _ h => h⟩
def wzX12_balanceOf : List Cond := Cond.code yX12_balanceOf cX12_balanceOf 6 (some .long) :: lwG
theorem w_6_184 : Cond.code yX12_balanceOf cX12_balanceOf 6 (some .long) ∈ lwG := lwG_of (mt_6 (List.mem_of_getElem? (i := 184) (by decide +kernel))) rfl
theorem czX12_balanceOf : Cond.code yX12_balanceOf cX12_balanceOf 6 (some .long) ∈ lwG := w_6_184
theorem azX12_balanceOf : ∀ w ∈ wzX12_balanceOf, w ∈ lwG := List.forall_mem_cons.mpr ⟨w_6_184, fun _ h => h⟩
def wzX12_balance : List Cond := Cond.code yX12_balance cX12_balance 3 (some .long) :: lwG
theorem w_6_180 : Cond.code yX12_balance cX12_balance 3 (some .long) ∈ lwG := lwG_of (mt_6 (List.mem_of_getElem? (i := 180) (by decide +kernel))) rfl
theorem czX12_balance : Cond.code yX12_balance cX12_balance 3 (some .long) ∈ lwG := w_6_180
theorem azX12_balance : ∀ w ∈ wzX12_balance, w ∈ lwG := List.forall_mem_cons.mpr ⟨w_6_180, fun _ h => h⟩
def wzX12_fewest : List Cond := Cond.code yX12_fewest cX12_fewest 6 (some .int) :: lwG
theorem w_6_189 : Cond.code yX12_fewest cX12_fewest 6 (some .int) ∈ lwG := lwG_of (mt_6 (List.mem_of_getElem? (i := 189) (by decide +kernel))) rfl
theorem czX12_fewest : Cond.code yX12_fewest cX12_fewest 6 (some .int) ∈ lwG := w_6_189
theorem azX12_fewest : ∀ w ∈ wzX12_fewest, w ∈ lwG := List.forall_mem_cons.mpr ⟨w_6_189, fun _ h => h⟩
def wzX12_findOwes : List Cond := Cond.code yX12_findOwes cX12_findOwes 4 none :: lwG
theorem w_6_197 : Cond.code yX12_findOwes cX12_findOwes 4 none ∈ lwG := lwG_of (mt_6 (List.mem_of_getElem? (i := 197) (by decide +kernel))) rfl
theorem czX12_findOwes : Cond.code yX12_findOwes cX12_findOwes 4 none ∈ lwG := w_6_197
theorem azX12_findOwes : ∀ w ∈ wzX12_findOwes, w ∈ lwG := List.forall_mem_cons.mpr ⟨w_6_197, fun _ h => h⟩
def wzX12_findCan : List Cond := Cond.code yX12_findCan cX12_findCan 8 (some .boolean) :: lwG
theorem w_6_205 : Cond.code yX12_findCan cX12_findCan 8 (some .boolean) ∈ lwG := lwG_of (mt_6 (List.mem_of_getElem? (i := 205) (by decide +kernel))) rfl
theorem czX12_findCan : Cond.code yX12_findCan cX12_findCan 8 (some .boolean) ∈ lwG := w_6_205
theorem azX12_findCan : ∀ w ∈ wzX12_findCan, w ∈ lwG := List.forall_mem_cons.mpr ⟨w_6_205, fun _ h => h⟩
def wzX12_findRing : List Cond := Cond.code yX12_findRing cX12_findRing 5 (some .int) :: lwG
theorem w_6_201 : Cond.code yX12_findRing cX12_findRing 5 (some .int) ∈ lwG := lwG_of (mt_6 (List.mem_of_getElem? (i := 201) (by decide +kernel))) rfl
theorem czX12_findRing : Cond.code yX12_findRing cX12_findRing 5 (some .int) ∈ lwG := w_6_201
theorem azX12_findRing : ∀ w ∈ wzX12_findRing, w ∈ lwG := List.forall_mem_cons.mpr ⟨w_6_201, fun _ h => h⟩
def wzX12_ring : List Cond := Cond.code yX12_ring cX12_ring 4 (some .int) :: lwG
theorem w_6_193 : Cond.code yX12_ring cX12_ring 4 (some .int) ∈ lwG := lwG_of (mt_6 (List.mem_of_getElem? (i := 193) (by decide +kernel))) rfl
theorem czX12_ring : Cond.code yX12_ring cX12_ring 4 (some .int) ∈ lwG := w_6_193
theorem azX12_ring : ∀ w ∈ wzX12_ring, w ∈ lwG := List.forall_mem_cons.mpr ⟨w_6_193, fun _ h => h⟩
def wzX12_names : List Cond := Cond.code yX12_names cX12_names 2 (some .int) :: lwG
theorem w_6_209 : Cond.code yX12_names cX12_names 2 (some .int) ∈ lwG := lwG_of (mt_6 (List.mem_of_getElem? (i := 209) (by decide +kernel))) rfl
theorem czX12_names : Cond.code yX12_names cX12_names 2 (some .int) ∈ lwG := w_6_209
theorem azX12_names : ∀ w ∈ wzX12_names, w ∈ lwG := List.forall_mem_cons.mpr ⟨w_6_209, fun _ h => h⟩
def wzX12_isName : List Cond := Cond.code yX12_isName cX12_isName 2 (some .boolean) :: lwG
theorem w_6_218 : Cond.code yX12_isName cX12_isName 2 (some .boolean) ∈ lwG := lwG_of (mt_6 (List.mem_of_getElem? (i := 218) (by decide +kernel))) rfl
theorem czX12_isName : Cond.code yX12_isName cX12_isName 2 (some .boolean) ∈ lwG := w_6_218
theorem azX12_isName : ∀ w ∈ wzX12_isName, w ∈ lwG := List.forall_mem_cons.mpr ⟨w_6_218, fun _ h => h⟩
def wzX12_ahead : List Cond := Cond.code yX12_ahead cX12_ahead 5 (some .int) :: lwG
theorem w_6_214 : Cond.code yX12_ahead cX12_ahead 5 (some .int) ∈ lwG := lwG_of (mt_6 (List.mem_of_getElem? (i := 214) (by decide +kernel))) rfl
theorem czX12_ahead : Cond.code yX12_ahead cX12_ahead 5 (some .int) ∈ lwG := w_6_214
theorem azX12_ahead : ∀ w ∈ wzX12_ahead, w ∈ lwG := List.forall_mem_cons.mpr ⟨w_6_214, fun _ h => h⟩
def wzX12_mayCome : List Cond := Cond.code yX12_mayCome cX12_mayCome 3 (some .boolean) :: lwG
theorem w_6_233 : Cond.code yX12_mayCome cX12_mayCome 3 (some .boolean) ∈ lwG := lwG_of (mt_6 (List.mem_of_getElem? (i := 233) (by decide +kernel))) rfl
theorem czX12_mayCome : Cond.code yX12_mayCome cX12_mayCome 3 (some .boolean) ∈ lwG := w_6_233
theorem azX12_mayCome : ∀ w ∈ wzX12_mayCome, w ∈ lwG := List.forall_mem_cons.mpr ⟨w_6_233, fun _ h => h⟩
def wzX12_findOrders : List Cond := Cond.code yX12_findOrders cX12_findOrders 6 (some .long) :: lwG
theorem w_6_229 : Cond.code yX12_findOrders cX12_findOrders 6 (some .long) ∈ lwG := lwG_of (mt_6 (List.mem_of_getElem? (i := 229) (by decide +kernel))) rfl
theorem czX12_findOrders : Cond.code yX12_findOrders cX12_findOrders 6 (some .long) ∈ lwG := w_6_229
theorem azX12_findOrders : ∀ w ∈ wzX12_findOrders, w ∈ lwG := List.forall_mem_cons.mpr ⟨w_6_229, fun _ h => h⟩
def wzX12_isKnown : List Cond := Cond.code yX12_isKnown cX12_isKnown 1 (some .boolean) :: lwG
theorem w_6_225 : Cond.code yX12_isKnown cX12_isKnown 1 (some .boolean) ∈ lwG := lwG_of (mt_6 (List.mem_of_getElem? (i := 225) (by decide +kernel))) rfl
theorem czX12_isKnown : Cond.code yX12_isKnown cX12_isKnown 1 (some .boolean) ∈ lwG := w_6_225
theorem azX12_isKnown : ∀ w ∈ wzX12_isKnown, w ∈ lwG := List.forall_mem_cons.mpr ⟨w_6_225, fun _ h => h⟩
def wzX12_orders : List Cond := Cond.code yX12_orders cX12_orders 2 (some .int) :: lwG
theorem w_6_222 : Cond.code yX12_orders cX12_orders 2 (some .int) ∈ lwG := lwG_of (mt_6 (List.mem_of_getElem? (i := 222) (by decide +kernel))) rfl
theorem czX12_orders : Cond.code yX12_orders cX12_orders 2 (some .int) ∈ lwG := w_6_222
theorem azX12_orders : ∀ w ∈ wzX12_orders, w ∈ lwG := List.forall_mem_cons.mpr ⟨w_6_222, fun _ h => h⟩
def wzX12_sizeOf : List Cond := Cond.code yX12_sizeOf cX12_sizeOf 3 (some .int) :: lwG
theorem w_7_0 : Cond.code yX12_sizeOf cX12_sizeOf 3 (some .int) ∈ lwG := lwG_of (mt_7 (List.mem_of_getElem? (i := 0) (by decide +kernel))) rfl
theorem czX12_sizeOf : Cond.code yX12_sizeOf cX12_sizeOf 3 (some .int) ∈ lwG := w_7_0
theorem azX12_sizeOf : ∀ w ∈ wzX12_sizeOf, w ∈ lwG := List.forall_mem_cons.mpr ⟨w_7_0, fun _ h => h⟩
def wzX12_place : List Cond := Cond.code yX12_place cX12_place 7 (some .int) :: lwG
theorem w_6_237 : Cond.code yX12_place cX12_place 7 (some .int) ∈ lwG := lwG_of (mt_6 (List.mem_of_getElem? (i := 237) (by decide +kernel))) rfl
theorem czX12_place : Cond.code yX12_place cX12_place 7 (some .int) ∈ lwG := w_6_237
theorem azX12_place : ∀ w ∈ wzX12_place, w ∈ lwG := List.forall_mem_cons.mpr ⟨w_6_237, fun _ h => h⟩
def wzX12_order : List Cond := Cond.code yX12_order cX12_order 6 (some .int) :: lwG
theorem w_7_4 : Cond.code yX12_order cX12_order 6 (some .int) ∈ lwG := lwG_of (mt_7 (List.mem_of_getElem? (i := 4) (by decide +kernel))) rfl
theorem czX12_order : Cond.code yX12_order cX12_order 6 (some .int) ∈ lwG := w_7_4
theorem azX12_order : ∀ w ∈ wzX12_order, w ∈ lwG := List.forall_mem_cons.mpr ⟨w_7_4, fun _ h => h⟩
def wzX12_letter : List Cond := Cond.code yX12_letter cX12_letter 7 (some .int) :: lwG
theorem w_7_8 : Cond.code yX12_letter cX12_letter 7 (some .int) ∈ lwG := lwG_of (mt_7 (List.mem_of_getElem? (i := 8) (by decide +kernel))) rfl
theorem czX12_letter : Cond.code yX12_letter cX12_letter 7 (some .int) ∈ lwG := w_7_8
theorem azX12_letter : ∀ w ∈ wzX12_letter, w ∈ lwG := List.forall_mem_cons.mpr ⟨w_7_8, fun _ h => h⟩
def wzX12_known : List Cond := Cond.code yX12_known cX12_known 6 (some .int) :: lwG
theorem w_7_23 : Cond.code yX12_known cX12_known 6 (some .int) ∈ lwG := lwG_of (mt_7 (List.mem_of_getElem? (i := 23) (by decide +kernel))) rfl
theorem czX12_known : Cond.code yX12_known cX12_known 6 (some .int) ∈ lwG := w_7_23
theorem azX12_known : ∀ w ∈ wzX12_known, w ∈ lwG := List.forall_mem_cons.mpr ⟨w_7_23, fun _ h => h⟩
def wzX12_findLoads : List Cond := Cond.code yX12_findLoads cX12_findLoads 4 none :: lwG
theorem w_7_19 : Cond.code yX12_findLoads cX12_findLoads 4 none ∈ lwG := lwG_of (mt_7 (List.mem_of_getElem? (i := 19) (by decide +kernel))) rfl
theorem czX12_findLoads : Cond.code yX12_findLoads cX12_findLoads 4 none ∈ lwG := w_7_19
theorem azX12_findLoads : ∀ w ∈ wzX12_findLoads, w ∈ lwG := List.forall_mem_cons.mpr ⟨w_7_19, fun _ h => h⟩
def wzX12_knows : List Cond := Cond.code yX12_knows cX12_knows 4 (some .int) :: lwG
theorem w_7_15 : Cond.code yX12_knows cX12_knows 4 (some .int) ∈ lwG := lwG_of (mt_7 (List.mem_of_getElem? (i := 15) (by decide +kernel))) rfl
theorem czX12_knows : Cond.code yX12_knows cX12_knows 4 (some .int) ∈ lwG := w_7_15
theorem azX12_knows : ∀ w ∈ wzX12_knows, w ∈ lwG := List.forall_mem_cons.mpr ⟨w_7_15, fun _ h => h⟩
def wzX12_carries : List Cond := Cond.code yX12_carries cX12_carries 2 (some .int) :: lwG
theorem w_7_27 : Cond.code yX12_carries cX12_carries 2 (some .int) ∈ lwG := lwG_of (mt_7 (List.mem_of_getElem? (i := 27) (by decide +kernel))) rfl
theorem czX12_carries : Cond.code yX12_carries cX12_carries 2 (some .int) ∈ lwG := w_7_27
theorem azX12_carries : ∀ w ∈ wzX12_carries, w ∈ lwG := List.forall_mem_cons.mpr ⟨w_7_27, fun _ h => h⟩
def wzX12_mention : List Cond := Cond.code yX12_mention cX12_mention 5 (some .int) :: lwG
theorem w_7_31 : Cond.code yX12_mention cX12_mention 5 (some .int) ∈ lwG := lwG_of (mt_7 (List.mem_of_getElem? (i := 31) (by decide +kernel))) rfl
theorem czX12_mention : Cond.code yX12_mention cX12_mention 5 (some .int) ∈ lwG := w_7_31
theorem azX12_mention : ∀ w ∈ wzX12_mention, w ∈ lwG := List.forall_mem_cons.mpr ⟨w_7_31, fun _ h => h⟩
def wzX12_mayBeOne : List Cond := Cond.code yX12_mayBeOne cX12_mayBeOne 7 (some .boolean) :: lwG
theorem w_7_47 : Cond.code yX12_mayBeOne cX12_mayBeOne 7 (some .boolean) ∈ lwG := lwG_of (mt_7 (List.mem_of_getElem? (i := 47) (by decide +kernel))) rfl
theorem czX12_mayBeOne : Cond.code yX12_mayBeOne cX12_mayBeOne 7 (some .boolean) ∈ lwG := w_7_47
theorem azX12_mayBeOne : ∀ w ∈ wzX12_mayBeOne, w ∈ lwG := List.forall_mem_cons.mpr ⟨w_7_47, fun _ h => h⟩
def wzX12_mayFollow : List Cond := Cond.code yX12_mayFollow cX12_mayFollow 3 (some .boolean) :: lwG
theorem w_7_43 : Cond.code yX12_mayFollow cX12_mayFollow 3 (some .boolean) ∈ lwG := lwG_of (mt_7 (List.mem_of_getElem? (i := 43) (by decide +kernel))) rfl
theorem czX12_mayFollow : Cond.code yX12_mayFollow cX12_mayFollow 3 (some .boolean) ∈ lwG := w_7_43
theorem azX12_mayFollow : ∀ w ∈ wzX12_mayFollow, w ∈ lwG := List.forall_mem_cons.mpr ⟨w_7_43, fun _ h => h⟩
def wzX12_findMen : List Cond := Cond.code yX12_findMen cX12_findMen 6 (some .int) :: lwG
theorem w_7_39 : Cond.code yX12_findMen cX12_findMen 6 (some .int) ∈ lwG := lwG_of (mt_7 (List.mem_of_getElem? (i := 39) (by decide +kernel))) rfl
theorem czX12_findMen : Cond.code yX12_findMen cX12_findMen 6 (some .int) ∈ lwG := w_7_39
theorem azX12_findMen : ∀ w ∈ wzX12_findMen, w ∈ lwG := List.forall_mem_cons.mpr ⟨w_7_39, fun _ h => h⟩
def wzX12_men : List Cond := Cond.code yX12_men cX12_men 3 (some .int) :: lwG
theorem w_7_35 : Cond.code yX12_men cX12_men 3 (some .int) ∈ lwG := lwG_of (mt_7 (List.mem_of_getElem? (i := 35) (by decide +kernel))) rfl
theorem czX12_men : Cond.code yX12_men cX12_men 3 (some .int) ∈ lwG := w_7_35
theorem azX12_men : ∀ w ∈ wzX12_men, w ∈ lwG := List.forall_mem_cons.mpr ⟨w_7_35, fun _ h => h⟩
def wzX12_load : List Cond := Cond.code yX12_load cX12_load 5 (some .int) :: lwG
theorem w_7_53 : Cond.code yX12_load cX12_load 5 (some .int) ∈ lwG := lwG_of (mt_7 (List.mem_of_getElem? (i := 53) (by decide +kernel))) rfl
theorem czX12_load : Cond.code yX12_load cX12_load 5 (some .int) ∈ lwG := w_7_53
theorem azX12_load : ∀ w ∈ wzX12_load, w ∈ lwG := List.forall_mem_cons.mpr ⟨w_7_53, fun _ h => h⟩
def wzX12_unload : List Cond := Cond.code yX12_unload cX12_unload 1 (some .int) :: lwG
theorem w_7_57 : Cond.code yX12_unload cX12_unload 1 (some .int) ∈ lwG := lwG_of (mt_7 (List.mem_of_getElem? (i := 57) (by decide +kernel))) rfl
theorem czX12_unload : Cond.code yX12_unload cX12_unload 1 (some .int) ∈ lwG := w_7_57
theorem azX12_unload : ∀ w ∈ wzX12_unload, w ∈ lwG := List.forall_mem_cons.mpr ⟨w_7_57, fun _ h => h⟩
def wzX12_price : List Cond := Cond.code yX12_price cX12_price 3 (some .int) :: lwG
theorem w_7_61 : Cond.code yX12_price cX12_price 3 (some .int) ∈ lwG := lwG_of (mt_7 (List.mem_of_getElem? (i := 61) (by decide +kernel))) rfl
theorem czX12_price : Cond.code yX12_price cX12_price 3 (some .int) ∈ lwG := w_7_61
theorem azX12_price : ∀ w ∈ wzX12_price, w ∈ lwG := List.forall_mem_cons.mpr ⟨w_7_61, fun _ h => h⟩
def wzX12_findSilver : List Cond := Cond.code yX12_findSilver cX12_findSilver 8 none :: lwG
theorem w_7_69 : Cond.code yX12_findSilver cX12_findSilver 8 none ∈ lwG := lwG_of (mt_7 (List.mem_of_getElem? (i := 69) (by decide +kernel))) rfl
theorem czX12_findSilver : Cond.code yX12_findSilver cX12_findSilver 8 none ∈ lwG := w_7_69
theorem azX12_findSilver : ∀ w ∈ wzX12_findSilver, w ∈ lwG := List.forall_mem_cons.mpr ⟨w_7_69, fun _ h => h⟩
def wzX12_plan : List Cond := Cond.code yX12_plan cX12_plan 15 (some .long) :: lwG
theorem w_7_65 : Cond.code yX12_plan cX12_plan 15 (some .long) ∈ lwG := lwG_of (mt_7 (List.mem_of_getElem? (i := 65) (by decide +kernel))) rfl
theorem czX12_plan : Cond.code yX12_plan cX12_plan 15 (some .long) ∈ lwG := w_7_65
theorem azX12_plan : ∀ w ∈ wzX12_plan, w ∈ lwG := List.forall_mem_cons.mpr ⟨w_7_65, fun _ h => h⟩
def wzX12_part : List Cond := Cond.code yX12_part cX12_part 2 (some .long) :: lwG
theorem w_7_73 : Cond.code yX12_part cX12_part 2 (some .long) ∈ lwG := lwG_of (mt_7 (List.mem_of_getElem? (i := 73) (by decide +kernel))) rfl
theorem czX12_part : Cond.code yX12_part cX12_part 2 (some .long) ∈ lwG := w_7_73
theorem azX12_part : ∀ w ∈ wzX12_part, w ∈ lwG := List.forall_mem_cons.mpr ⟨w_7_73, fun _ h => h⟩
def wzX12_image : List Cond := Cond.code yX12_image cX12_image 3 (some .int) :: lwG
theorem w_7_77 : Cond.code yX12_image cX12_image 3 (some .int) ∈ lwG := lwG_of (mt_7 (List.mem_of_getElem? (i := 77) (by decide +kernel))) rfl
theorem czX12_image : Cond.code yX12_image cX12_image 3 (some .int) ∈ lwG := w_7_77
theorem azX12_image : ∀ w ∈ wzX12_image, w ∈ lwG := List.forall_mem_cons.mpr ⟨w_7_77, fun _ h => h⟩
def wzX12_from : List Cond := Cond.code yX12_from cX12_from 3 (some .int) :: lwG
theorem w_7_81 : Cond.code yX12_from cX12_from 3 (some .int) ∈ lwG := lwG_of (mt_7 (List.mem_of_getElem? (i := 81) (by decide +kernel))) rfl
theorem czX12_from : Cond.code yX12_from cX12_from 3 (some .int) ∈ lwG := w_7_81
theorem azX12_from : ∀ w ∈ wzX12_from, w ∈ lwG := List.forall_mem_cons.mpr ⟨w_7_81, fun _ h => h⟩
def wzX12_count : List Cond := Cond.code yX12_count cX12_count 2 (some .int) :: lwG
theorem w_7_85 : Cond.code yX12_count cX12_count 2 (some .int) ∈ lwG := lwG_of (mt_7 (List.mem_of_getElem? (i := 85) (by decide +kernel))) rfl
theorem czX12_count : Cond.code yX12_count cX12_count 2 (some .int) ∈ lwG := w_7_85
theorem azX12_count : ∀ w ∈ wzX12_count, w ∈ lwG := List.forall_mem_cons.mpr ⟨w_7_85, fun _ h => h⟩
def wzX12_mixed : List Cond := Cond.code yX12_mixed cX12_mixed 8 (some .long) :: lwG
theorem w_7_95 : Cond.code yX12_mixed cX12_mixed 8 (some .long) ∈ lwG := lwG_of (mt_7 (List.mem_of_getElem? (i := 95) (by decide +kernel))) rfl
theorem czX12_mixed : Cond.code yX12_mixed cX12_mixed 8 (some .long) ∈ lwG := w_7_95
theorem azX12_mixed : ∀ w ∈ wzX12_mixed, w ∈ lwG := List.forall_mem_cons.mpr ⟨w_7_95, fun _ h => h⟩
def wzX12_digest : List Cond := Cond.code yX12_digest cX12_digest 4 (some .long) :: lwG
theorem w_7_90 : Cond.code yX12_digest cX12_digest 4 (some .long) ∈ lwG := lwG_of (mt_7 (List.mem_of_getElem? (i := 90) (by decide +kernel))) rfl
theorem czX12_digest : Cond.code yX12_digest cX12_digest 4 (some .long) ∈ lwG := w_7_90
theorem azX12_digest : ∀ w ∈ wzX12_digest, w ∈ lwG := List.forall_mem_cons.mpr ⟨w_7_90, fun _ h => h⟩
def wzJ6_bitCount_0f7a4 : List Cond := Cond.code yJ6_bitCount_0f7a4 cJ6_bitCount_0f7a4 1 (some .int) :: lwG
theorem w_4_150 : Cond.code yJ6_bitCount_0f7a4 cJ6_bitCount_0f7a4 1 (some .int) ∈ lwG := lwG_of (mt_4 (List.mem_of_getElem? (i := 150) (by decide +kernel))) rfl
theorem czJ6_bitCount_0f7a4 : Cond.code yJ6_bitCount_0f7a4 cJ6_bitCount_0f7a4 1 (some .int) ∈ lwG := w_4_150
theorem azJ6_bitCount_0f7a4 : ∀ w ∈ wzJ6_bitCount_0f7a4, w ∈ lwG := List.forall_mem_cons.mpr ⟨w_4_150, fun _ h => h⟩
def wzJ9_abs_0f7a4 : List Cond := Cond.code yJ9_abs_0f7a4 cJ9_abs_0f7a4 1 (some .int) :: lwG
theorem w_4_221 : Cond.code yJ9_abs_0f7a4 cJ9_abs_0f7a4 1 (some .int) ∈ lwG := lwG_of (mt_4 (List.mem_of_getElem? (i := 221) (by decide +kernel))) rfl
theorem czJ9_abs_0f7a4 : Cond.code yJ9_abs_0f7a4 cJ9_abs_0f7a4 1 (some .int) ∈ lwG := w_4_221
theorem azJ9_abs_0f7a4 : ∀ w ∈ wzJ9_abs_0f7a4, w ∈ lwG := List.forall_mem_cons.mpr ⟨w_4_221, fun _ h => h⟩
def wzJ9_max_7cf53 : List Cond := Cond.code yJ9_max_7cf53 cJ9_max_7cf53 2 (some .int) :: lwG
theorem w_1_40 : Cond.code yJ9_max_7cf53 cJ9_max_7cf53 2 (some .int) ∈ lwG := lwG_of (mt_1 (List.mem_of_getElem? (i := 40) (by decide +kernel))) rfl
theorem czJ9_max_7cf53 : Cond.code yJ9_max_7cf53 cJ9_max_7cf53 2 (some .int) ∈ lwG := w_1_40
theorem azJ9_max_7cf53 : ∀ w ∈ wzJ9_max_7cf53, w ∈ lwG := List.forall_mem_cons.mpr ⟨w_1_40, fun _ h => h⟩
def wzJ9_max_f86c9 : List Cond := Cond.code yJ9_max_f86c9 cJ9_max_f86c9 4 (some .long) :: lwG
theorem w_3_143 : Cond.code yJ9_max_f86c9 cJ9_max_f86c9 4 (some .long) ∈ lwG := lwG_of (mt_3 (List.mem_of_getElem? (i := 143) (by decide +kernel))) rfl
theorem czJ9_max_f86c9 : Cond.code yJ9_max_f86c9 cJ9_max_f86c9 4 (some .long) ∈ lwG := w_3_143
theorem azJ9_max_f86c9 : ∀ w ∈ wzJ9_max_f86c9, w ∈ lwG := List.forall_mem_cons.mpr ⟨w_3_143, fun _ h => h⟩
def wzJ9_min_7cf53 : List Cond := Cond.code yJ9_min_7cf53 cJ9_min_7cf53 2 (some .int) :: lwG
theorem w_4_84 : Cond.code yJ9_min_7cf53 cJ9_min_7cf53 2 (some .int) ∈ lwG := lwG_of (mt_4 (List.mem_of_getElem? (i := 84) (by decide +kernel))) rfl
theorem czJ9_min_7cf53 : Cond.code yJ9_min_7cf53 cJ9_min_7cf53 2 (some .int) ∈ lwG := w_4_84
theorem azJ9_min_7cf53 : ∀ w ∈ wzJ9_min_7cf53, w ∈ lwG := List.forall_mem_cons.mpr ⟨w_4_84, fun _ h => h⟩
def wzJ9_min_f86c9 : List Cond := Cond.code yJ9_min_f86c9 cJ9_min_f86c9 4 (some .long) :: lwG
theorem w_3_127 : Cond.code yJ9_min_f86c9 cJ9_min_f86c9 4 (some .long) ∈ lwG := lwG_of (mt_3 (List.mem_of_getElem? (i := 127) (by decide +kernel))) rfl
theorem czJ9_min_f86c9 : Cond.code yJ9_min_f86c9 cJ9_min_f86c9 4 (some .long) ∈ lwG := w_3_127
theorem azJ9_min_f86c9 : ∀ w ∈ wzJ9_min_f86c9, w ∈ lwG := List.forall_mem_cons.mpr ⟨w_3_127, fun _ h => h⟩
def wzJ7_fill_d0a16 : List Cond := Cond.code yJ7_fill_d0a16 cJ7_fill_d0a16 5 none :: lwG
theorem w_3_119 : Cond.code yJ7_fill_d0a16 cJ7_fill_d0a16 5 none ∈ lwG := lwG_of (mt_3 (List.mem_of_getElem? (i := 119) (by decide +kernel))) rfl
theorem czJ7_fill_d0a16 : Cond.code yJ7_fill_d0a16 cJ7_fill_d0a16 5 none ∈ lwG := w_3_119
theorem azJ7_fill_d0a16 : ∀ w ∈ wzJ7_fill_d0a16, w ∈ lwG := List.forall_mem_cons.mpr ⟨w_3_119, fun _ h => h⟩
def wzJ7_fill_53178 : List Cond := Cond.code yJ7_fill_53178 cJ7_fill_53178 4 none :: lwG
theorem w_4_73 : Cond.code yJ7_fill_53178 cJ7_fill_53178 4 none ∈ lwG := lwG_of (mt_4 (List.mem_of_getElem? (i := 73) (by decide +kernel))) rfl
theorem czJ7_fill_53178 : Cond.code yJ7_fill_53178 cJ7_fill_53178 4 none ∈ lwG := w_4_73
theorem azJ7_fill_53178 : ∀ w ∈ wzJ7_fill_53178, w ∈ lwG := List.forall_mem_cons.mpr ⟨w_4_73, fun _ h => h⟩
theorem w_1_20 : Cond.methodLink RL 9 yX11_init ∈ lwG := lwG_of (mt_1 (List.mem_of_getElem? (i := 20) (by decide +kernel))) rfl
theorem mL_9 {a : Cond} : Cond.methodLink RL 9 yX11_init ∈ a :: lwG := List.mem_cons_of_mem _ w_1_20
theorem w_1_21 : Cond.instanceMethod yX11_init ∈ lwG := lwG_of (mt_1 (List.mem_of_getElem? (i := 21) (by decide +kernel))) rfl
theorem nL_9 {a : Cond} : Cond.instanceMethod yX11_init ∈ a :: lwG := List.mem_cons_of_mem _ w_1_21
theorem gzL_9 {a : Cond} : GoodIn (a :: lwG) wzX11_init := goodG azX11_init
theorem w_5_111 : Cond.methodLink RL 12 yX12_init ∈ lwG := lwG_of (mt_5 (List.mem_of_getElem? (i := 111) (by decide +kernel))) rfl
theorem mL_12 {a : Cond} : Cond.methodLink RL 12 yX12_init ∈ a :: lwG := List.mem_cons_of_mem _ w_5_111
theorem w_5_112 : Cond.instanceMethod yX12_init ∈ lwG := lwG_of (mt_5 (List.mem_of_getElem? (i := 112) (by decide +kernel))) rfl
theorem nL_12 {a : Cond} : Cond.instanceMethod yX12_init ∈ a :: lwG := List.mem_cons_of_mem _ w_5_112
theorem gzL_12 {a : Cond} : GoodIn (a :: lwG) wzX12_init := goodG azX12_init
theorem w_1_31 : Cond.methodLink RX0 3 objectInit ∈ lwG := lwG_of (mt_1 (List.mem_of_getElem? (i := 31) (by decide +kernel))) rfl
theorem mX0_3 {a : Cond} : Cond.methodLink RX0 3 objectInit ∈ a :: lwG := List.mem_cons_of_mem _ w_1_31
theorem w_1_34 : Cond.methodLink RX0 11 yX8_init ∈ lwG := lwG_of (mt_1 (List.mem_of_getElem? (i := 34) (by decide +kernel))) rfl
theorem mX0_11 {a : Cond} : Cond.methodLink RX0 11 yX8_init ∈ a :: lwG := List.mem_cons_of_mem _ w_1_34
theorem w_1_35 : Cond.instanceMethod yX8_init ∈ lwG := lwG_of (mt_1 (List.mem_of_getElem? (i := 35) (by decide +kernel))) rfl
theorem nX0_11 {a : Cond} : Cond.instanceMethod yX8_init ∈ a :: lwG := List.mem_cons_of_mem _ w_1_35
theorem gzX0_11 {a : Cond} : GoodIn (a :: lwG) wzX8_init := goodG azX8_init
theorem w_1_208 : Cond.methodLink RX1 3 objectInit ∈ lwG := lwG_of (mt_1 (List.mem_of_getElem? (i := 208) (by decide +kernel))) rfl
theorem mX1_3 {a : Cond} : Cond.methodLink RX1 3 objectInit ∈ a :: lwG := List.mem_cons_of_mem _ w_1_208
theorem w_2_63 : Cond.methodLink RX10 3 objectInit ∈ lwG := lwG_of (mt_2 (List.mem_of_getElem? (i := 63) (by decide +kernel))) rfl
theorem mX10_3 {a : Cond} : Cond.methodLink RX10 3 objectInit ∈ a :: lwG := List.mem_cons_of_mem _ w_2_63
theorem w_1_23 : Cond.methodLink RX11 3 objectInit ∈ lwG := lwG_of (mt_1 (List.mem_of_getElem? (i := 23) (by decide +kernel))) rfl
theorem mX11_3 {a : Cond} : Cond.methodLink RX11 3 objectInit ∈ a :: lwG := List.mem_cons_of_mem _ w_1_23
theorem w_1_28 : Cond.methodLink RX11 11 yX0_init ∈ lwG := lwG_of (mt_1 (List.mem_of_getElem? (i := 28) (by decide +kernel))) rfl
theorem mX11_11 {a : Cond} : Cond.methodLink RX11 11 yX0_init ∈ a :: lwG := List.mem_cons_of_mem _ w_1_28
theorem w_1_29 : Cond.instanceMethod yX0_init ∈ lwG := lwG_of (mt_1 (List.mem_of_getElem? (i := 29) (by decide +kernel))) rfl
theorem nX11_11 {a : Cond} : Cond.instanceMethod yX0_init ∈ a :: lwG := List.mem_cons_of_mem _ w_1_29
theorem gzX11_11 {a : Cond} : GoodIn (a :: lwG) wzX0_init := goodG azX0_init
theorem w_1_205 : Cond.methodLink RX11 29 yX1_init ∈ lwG := lwG_of (mt_1 (List.mem_of_getElem? (i := 205) (by decide +kernel))) rfl
theorem mX11_29 {a : Cond} : Cond.methodLink RX11 29 yX1_init ∈ a :: lwG := List.mem_cons_of_mem _ w_1_205
theorem w_1_206 : Cond.instanceMethod yX1_init ∈ lwG := lwG_of (mt_1 (List.mem_of_getElem? (i := 206) (by decide +kernel))) rfl
theorem nX11_29 {a : Cond} : Cond.instanceMethod yX1_init ∈ a :: lwG := List.mem_cons_of_mem _ w_1_206
theorem gzX11_29 {a : Cond} : GoodIn (a :: lwG) wzX1_init := goodG azX1_init
theorem w_1_237 : Cond.methodLink RX11 38 yX2_init ∈ lwG := lwG_of (mt_1 (List.mem_of_getElem? (i := 237) (by decide +kernel))) rfl
theorem mX11_38 {a : Cond} : Cond.methodLink RX11 38 yX2_init ∈ a :: lwG := List.mem_cons_of_mem _ w_1_237
theorem w_1_238 : Cond.instanceMethod yX2_init ∈ lwG := lwG_of (mt_1 (List.mem_of_getElem? (i := 238) (by decide +kernel))) rfl
theorem nX11_38 {a : Cond} : Cond.instanceMethod yX2_init ∈ a :: lwG := List.mem_cons_of_mem _ w_1_238
theorem gzX11_38 {a : Cond} : GoodIn (a :: lwG) wzX2_init := goodG azX2_init
theorem w_2_13 : Cond.methodLink RX11 47 yX4_init ∈ lwG := lwG_of (mt_2 (List.mem_of_getElem? (i := 13) (by decide +kernel))) rfl
theorem mX11_47 {a : Cond} : Cond.methodLink RX11 47 yX4_init ∈ a :: lwG := List.mem_cons_of_mem _ w_2_13
theorem w_2_14 : Cond.instanceMethod yX4_init ∈ lwG := lwG_of (mt_2 (List.mem_of_getElem? (i := 14) (by decide +kernel))) rfl
theorem nX11_47 {a : Cond} : Cond.instanceMethod yX4_init ∈ a :: lwG := List.mem_cons_of_mem _ w_2_14
theorem gzX11_47 {a : Cond} : GoodIn (a :: lwG) wzX4_init := goodG azX4_init
theorem w_2_47 : Cond.methodLink RX11 56 yX9_init ∈ lwG := lwG_of (mt_2 (List.mem_of_getElem? (i := 47) (by decide +kernel))) rfl
theorem mX11_56 {a : Cond} : Cond.methodLink RX11 56 yX9_init ∈ a :: lwG := List.mem_cons_of_mem _ w_2_47
theorem w_2_48 : Cond.instanceMethod yX9_init ∈ lwG := lwG_of (mt_2 (List.mem_of_getElem? (i := 48) (by decide +kernel))) rfl
theorem nX11_56 {a : Cond} : Cond.instanceMethod yX9_init ∈ a :: lwG := List.mem_cons_of_mem _ w_2_48
theorem gzX11_56 {a : Cond} : GoodIn (a :: lwG) wzX9_init := goodG azX9_init
theorem w_2_60 : Cond.methodLink RX11 63 yX10_init ∈ lwG := lwG_of (mt_2 (List.mem_of_getElem? (i := 60) (by decide +kernel))) rfl
theorem mX11_63 {a : Cond} : Cond.methodLink RX11 63 yX10_init ∈ a :: lwG := List.mem_cons_of_mem _ w_2_60
theorem w_2_61 : Cond.instanceMethod yX10_init ∈ lwG := lwG_of (mt_2 (List.mem_of_getElem? (i := 61) (by decide +kernel))) rfl
theorem nX11_63 {a : Cond} : Cond.instanceMethod yX10_init ∈ a :: lwG := List.mem_cons_of_mem _ w_2_61
theorem gzX11_63 {a : Cond} : GoodIn (a :: lwG) wzX10_init := goodG azX10_init
theorem w_2_79 : Cond.methodLink RX11 70 yX6_init ∈ lwG := lwG_of (mt_2 (List.mem_of_getElem? (i := 79) (by decide +kernel))) rfl
theorem mX11_70 {a : Cond} : Cond.methodLink RX11 70 yX6_init ∈ a :: lwG := List.mem_cons_of_mem _ w_2_79
theorem w_2_80 : Cond.instanceMethod yX6_init ∈ lwG := lwG_of (mt_2 (List.mem_of_getElem? (i := 80) (by decide +kernel))) rfl
theorem nX11_70 {a : Cond} : Cond.instanceMethod yX6_init ∈ a :: lwG := List.mem_cons_of_mem _ w_2_80
theorem gzX11_70 {a : Cond} : GoodIn (a :: lwG) wzX6_init := goodG azX6_init
theorem w_2_92 : Cond.methodLink RX11 77 yX3_init ∈ lwG := lwG_of (mt_2 (List.mem_of_getElem? (i := 92) (by decide +kernel))) rfl
theorem mX11_77 {a : Cond} : Cond.methodLink RX11 77 yX3_init ∈ a :: lwG := List.mem_cons_of_mem _ w_2_92
theorem w_2_93 : Cond.instanceMethod yX3_init ∈ lwG := lwG_of (mt_2 (List.mem_of_getElem? (i := 93) (by decide +kernel))) rfl
theorem nX11_77 {a : Cond} : Cond.instanceMethod yX3_init ∈ a :: lwG := List.mem_cons_of_mem _ w_2_93
theorem gzX11_77 {a : Cond} : GoodIn (a :: lwG) wzX3_init := goodG azX3_init
theorem w_2_111 : Cond.methodLink RX11 84 yX5_init ∈ lwG := lwG_of (mt_2 (List.mem_of_getElem? (i := 111) (by decide +kernel))) rfl
theorem mX11_84 {a : Cond} : Cond.methodLink RX11 84 yX5_init ∈ a :: lwG := List.mem_cons_of_mem _ w_2_111
theorem w_2_112 : Cond.instanceMethod yX5_init ∈ lwG := lwG_of (mt_2 (List.mem_of_getElem? (i := 112) (by decide +kernel))) rfl
theorem nX11_84 {a : Cond} : Cond.instanceMethod yX5_init ∈ a :: lwG := List.mem_cons_of_mem _ w_2_112
theorem gzX11_84 {a : Cond} : GoodIn (a :: lwG) wzX5_init := goodG azX5_init
theorem w_5_114 : Cond.methodLink RX12 1 objectInit ∈ lwG := lwG_of (mt_5 (List.mem_of_getElem? (i := 114) (by decide +kernel))) rfl
theorem mX12_1 {a : Cond} : Cond.methodLink RX12 1 objectInit ∈ a :: lwG := List.mem_cons_of_mem _ w_5_114
theorem w_2_0 : Cond.methodLink RX2 3 objectInit ∈ lwG := lwG_of (mt_2 (List.mem_of_getElem? (i := 0) (by decide +kernel))) rfl
theorem mX2_3 {a : Cond} : Cond.methodLink RX2 3 objectInit ∈ a :: lwG := List.mem_cons_of_mem _ w_2_0
theorem w_2_95 : Cond.methodLink RX3 3 objectInit ∈ lwG := lwG_of (mt_2 (List.mem_of_getElem? (i := 95) (by decide +kernel))) rfl
theorem mX3_3 {a : Cond} : Cond.methodLink RX3 3 objectInit ∈ a :: lwG := List.mem_cons_of_mem _ w_2_95
theorem w_2_16 : Cond.methodLink RX4 3 objectInit ∈ lwG := lwG_of (mt_2 (List.mem_of_getElem? (i := 16) (by decide +kernel))) rfl
theorem mX4_3 {a : Cond} : Cond.methodLink RX4 3 objectInit ∈ a :: lwG := List.mem_cons_of_mem _ w_2_16
theorem w_2_114 : Cond.methodLink RX5 3 objectInit ∈ lwG := lwG_of (mt_2 (List.mem_of_getElem? (i := 114) (by decide +kernel))) rfl
theorem mX5_3 {a : Cond} : Cond.methodLink RX5 3 objectInit ∈ a :: lwG := List.mem_cons_of_mem _ w_2_114
theorem w_2_82 : Cond.methodLink RX6 3 objectInit ∈ lwG := lwG_of (mt_2 (List.mem_of_getElem? (i := 82) (by decide +kernel))) rfl
theorem mX6_3 {a : Cond} : Cond.methodLink RX6 3 objectInit ∈ a :: lwG := List.mem_cons_of_mem _ w_2_82
theorem w_1_167 : Cond.methodLink RX7 3 objectInit ∈ lwG := lwG_of (mt_1 (List.mem_of_getElem? (i := 167) (by decide +kernel))) rfl
theorem mX7_3 {a : Cond} : Cond.methodLink RX7 3 objectInit ∈ a :: lwG := List.mem_cons_of_mem _ w_1_167
theorem w_1_37 : Cond.methodLink RX8 3 objectInit ∈ lwG := lwG_of (mt_1 (List.mem_of_getElem? (i := 37) (by decide +kernel))) rfl
theorem mX8_3 {a : Cond} : Cond.methodLink RX8 3 objectInit ∈ a :: lwG := List.mem_cons_of_mem _ w_1_37
theorem w_2_50 : Cond.methodLink RX9 3 objectInit ∈ lwG := lwG_of (mt_2 (List.mem_of_getElem? (i := 50) (by decide +kernel))) rfl
theorem mX9_3 {a : Cond} : Cond.methodLink RX9 3 objectInit ∈ a :: lwG := List.mem_cons_of_mem _ w_2_50
theorem w_3_140 : Cond.methodLink RX1 74 Lib.MathLoose.min_long.x ∈ lwG := lwG_of (mt_3 (List.mem_of_getElem? (i := 140) (by decide +kernel))) rfl
theorem mX1_74 {a : Cond} : Cond.methodLink RX1 74 Lib.MathLoose.min_long.x ∈ a :: lwG := List.mem_cons_of_mem _ w_3_140
theorem w_3_141 : Cond.methodLink RX1 80 Lib.MathLoose.max_long.x ∈ lwG := lwG_of (mt_3 (List.mem_of_getElem? (i := 141) (by decide +kernel))) rfl
theorem mX1_80 {a : Cond} : Cond.methodLink RX1 80 Lib.MathLoose.max_long.x ∈ a :: lwG := List.mem_cons_of_mem _ w_3_141
theorem w_3_52 : Cond.methodLink RX1 114 yX1_joined ∈ lwG := lwG_of (mt_3 (List.mem_of_getElem? (i := 52) (by decide +kernel))) rfl
theorem w_3_53 : Cond.static yX1_joined ∈ lwG := lwG_of (mt_3 (List.mem_of_getElem? (i := 53) (by decide +kernel))) rfl
theorem w_1_6 : Cond.initialized RX1 ∈ lwG := lwG_of (mt_1 (List.mem_of_getElem? (i := 6) (by decide +kernel))) rfl
theorem gzX1_114 {a : Cond} : GoodIn (a :: lwG) (wsS RX1 114 yX1_joined wzX1_joined) := goodG (by
  show ∀ w ∈ (_ :: _), w ∈ lwG
  exact List.forall_mem_cons.mpr ⟨w_3_52, List.forall_mem_cons.mpr ⟨w_3_53, List.forall_mem_cons.mpr ⟨w_1_6, azX1_joined⟩⟩⟩)
theorem w_4_121 : Cond.methodLink RX10 25 yJ7_fill_53178 ∈ lwG := lwG_of (mt_4 (List.mem_of_getElem? (i := 121) (by decide +kernel))) rfl
theorem w_4_72 : Cond.static yJ7_fill_53178 ∈ lwG := lwG_of (mt_4 (List.mem_of_getElem? (i := 72) (by decide +kernel))) rfl
theorem w_1_15 : Cond.initialized RJ7 ∈ lwG := lwG_of (mt_1 (List.mem_of_getElem? (i := 15) (by decide +kernel))) rfl
theorem gzX10_25 {a : Cond} : GoodIn (a :: lwG) (va_wsS RX10 25 yJ7_fill_53178 wzJ7_fill_53178) := goodG (by
  show ∀ w ∈ (_ :: _), w ∈ lwG
  exact List.forall_mem_cons.mpr ⟨w_4_121, List.forall_mem_cons.mpr ⟨w_4_72, List.forall_mem_cons.mpr ⟨w_1_15, azJ7_fill_53178⟩⟩⟩)
theorem w_4_127 : Cond.methodLink RX10 50 Lib.Math.min.name ∈ lwG := lwG_of (mt_4 (List.mem_of_getElem? (i := 127) (by decide +kernel))) rfl
theorem mX10_50 {a : Cond} : Cond.methodLink RX10 50 Lib.Math.min.name ∈ a :: lwG := List.mem_cons_of_mem _ w_4_127
theorem w_4_148 : Cond.methodLink RX10 63 yJ6_bitCount_0f7a4 ∈ lwG := lwG_of (mt_4 (List.mem_of_getElem? (i := 148) (by decide +kernel))) rfl
theorem w_4_149 : Cond.static yJ6_bitCount_0f7a4 ∈ lwG := lwG_of (mt_4 (List.mem_of_getElem? (i := 149) (by decide +kernel))) rfl
theorem w_1_16 : Cond.initialized RJ6 ∈ lwG := lwG_of (mt_1 (List.mem_of_getElem? (i := 16) (by decide +kernel))) rfl
theorem gzX10_63 {a : Cond} : GoodIn (a :: lwG) (va_wsS RX10 63 yJ6_bitCount_0f7a4 wzJ6_bitCount_0f7a4) := goodG (by
  show ∀ w ∈ (_ :: _), w ∈ lwG
  exact List.forall_mem_cons.mpr ⟨w_4_148, List.forall_mem_cons.mpr ⟨w_4_149, List.forall_mem_cons.mpr ⟨w_1_16, azJ6_bitCount_0f7a4⟩⟩⟩)
theorem w_2_177 : Cond.methodLink RX11 98 yX11_isOut ∈ lwG := lwG_of (mt_2 (List.mem_of_getElem? (i := 177) (by decide +kernel))) rfl
theorem w_2_178 : Cond.static yX11_isOut ∈ lwG := lwG_of (mt_2 (List.mem_of_getElem? (i := 178) (by decide +kernel))) rfl
theorem w_1_1 : Cond.initialized RX11 ∈ lwG := lwG_of (mt_1 (List.mem_of_getElem? (i := 1) (by decide +kernel))) rfl
theorem gzX11_98 {a : Cond} : GoodIn (a :: lwG) (wsS RX11 98 yX11_isOut wzX11_isOut) := goodG (by
  show ∀ w ∈ (_ :: _), w ∈ lwG
  exact List.forall_mem_cons.mpr ⟨w_2_177, List.forall_mem_cons.mpr ⟨w_2_178, List.forall_mem_cons.mpr ⟨w_1_1, azX11_isOut⟩⟩⟩)
theorem w_3_27 : Cond.methodLink RX11 131 yX11_isOutOfSeasons ∈ lwG := lwG_of (mt_3 (List.mem_of_getElem? (i := 27) (by decide +kernel))) rfl
theorem w_3_28 : Cond.static yX11_isOutOfSeasons ∈ lwG := lwG_of (mt_3 (List.mem_of_getElem? (i := 28) (by decide +kernel))) rfl
theorem gzX11_131 {a : Cond} : GoodIn (a :: lwG) (wsS RX11 131 yX11_isOutOfSeasons wzX11_isOutOfSeasons) := goodG (by
  show ∀ w ∈ (_ :: _), w ∈ lwG
  exact List.forall_mem_cons.mpr ⟨w_3_27, List.forall_mem_cons.mpr ⟨w_3_28, List.forall_mem_cons.mpr ⟨w_1_1, azX11_isOutOfSeasons⟩⟩⟩)
theorem w_3_216 : Cond.methodLink RX11 351 yX11_greatestDivisor ∈ lwG := lwG_of (mt_3 (List.mem_of_getElem? (i := 216) (by decide +kernel))) rfl
theorem w_3_217 : Cond.static yX11_greatestDivisor ∈ lwG := lwG_of (mt_3 (List.mem_of_getElem? (i := 217) (by decide +kernel))) rfl
theorem gzX11_351 {a : Cond} : GoodIn (a :: lwG) (wsS RX11 351 yX11_greatestDivisor wzX11_greatestDivisor) := goodG (by
  show ∀ w ∈ (_ :: _), w ∈ lwG
  exact List.forall_mem_cons.mpr ⟨w_3_216, List.forall_mem_cons.mpr ⟨w_3_217, List.forall_mem_cons.mpr ⟨w_1_1, azX11_greatestDivisor⟩⟩⟩)
theorem w_5_197 : Cond.methodLink RX12 79 yX12_in ∈ lwG := lwG_of (mt_5 (List.mem_of_getElem? (i := 197) (by decide +kernel))) rfl
theorem w_5_198 : Cond.static yX12_in ∈ lwG := lwG_of (mt_5 (List.mem_of_getElem? (i := 198) (by decide +kernel))) rfl
theorem w_1_14 : Cond.initialized RX12 ∈ lwG := lwG_of (mt_1 (List.mem_of_getElem? (i := 14) (by decide +kernel))) rfl
theorem gzX12_79 {a : Cond} : GoodIn (a :: lwG) (wsS RX12 79 yX12_in wzX12_in) := goodG (by
  show ∀ w ∈ (_ :: _), w ∈ lwG
  exact List.forall_mem_cons.mpr ⟨w_5_197, List.forall_mem_cons.mpr ⟨w_5_198, List.forall_mem_cons.mpr ⟨w_1_14, azX12_in⟩⟩⟩)
theorem w_5_237 : Cond.methodLink RX12 101 yX12_holds ∈ lwG := lwG_of (mt_5 (List.mem_of_getElem? (i := 237) (by decide +kernel))) rfl
theorem w_5_238 : Cond.static yX12_holds ∈ lwG := lwG_of (mt_5 (List.mem_of_getElem? (i := 238) (by decide +kernel))) rfl
theorem gzX12_101 {a : Cond} : GoodIn (a :: lwG) (wsS RX12 101 yX12_holds wzX12_holds) := goodG (by
  show ∀ w ∈ (_ :: _), w ∈ lwG
  exact List.forall_mem_cons.mpr ⟨w_5_237, List.forall_mem_cons.mpr ⟨w_5_238, List.forall_mem_cons.mpr ⟨w_1_14, azX12_holds⟩⟩⟩)
theorem w_6_8 : Cond.methodLink RX12 119 yX12_signOf ∈ lwG := lwG_of (mt_6 (List.mem_of_getElem? (i := 8) (by decide +kernel))) rfl
theorem w_6_9 : Cond.static yX12_signOf ∈ lwG := lwG_of (mt_6 (List.mem_of_getElem? (i := 9) (by decide +kernel))) rfl
theorem gzX12_119 {a : Cond} : GoodIn (a :: lwG) (wsS RX12 119 yX12_signOf wzX12_signOf) := goodG (by
  show ∀ w ∈ (_ :: _), w ∈ lwG
  exact List.forall_mem_cons.mpr ⟨w_6_8, List.forall_mem_cons.mpr ⟨w_6_9, List.forall_mem_cons.mpr ⟨w_1_14, azX12_signOf⟩⟩⟩)
theorem w_6_17 : Cond.methodLink RX12 130 yX12_nameOf ∈ lwG := lwG_of (mt_6 (List.mem_of_getElem? (i := 17) (by decide +kernel))) rfl
theorem w_6_18 : Cond.static yX12_nameOf ∈ lwG := lwG_of (mt_6 (List.mem_of_getElem? (i := 18) (by decide +kernel))) rfl
theorem gzX12_130 {a : Cond} : GoodIn (a :: lwG) (wsS RX12 130 yX12_nameOf wzX12_nameOf) := goodG (by
  show ∀ w ∈ (_ :: _), w ∈ lwG
  exact List.forall_mem_cons.mpr ⟨w_6_17, List.forall_mem_cons.mpr ⟨w_6_18, List.forall_mem_cons.mpr ⟨w_1_14, azX12_nameOf⟩⟩⟩)
theorem w_6_39 : Cond.methodLink RX12 133 yX12_twoOf ∈ lwG := lwG_of (mt_6 (List.mem_of_getElem? (i := 39) (by decide +kernel))) rfl
theorem w_6_40 : Cond.static yX12_twoOf ∈ lwG := lwG_of (mt_6 (List.mem_of_getElem? (i := 40) (by decide +kernel))) rfl
theorem gzX12_133 {a : Cond} : GoodIn (a :: lwG) (wsS RX12 133 yX12_twoOf wzX12_twoOf) := goodG (by
  show ∀ w ∈ (_ :: _), w ∈ lwG
  exact List.forall_mem_cons.mpr ⟨w_6_39, List.forall_mem_cons.mpr ⟨w_6_40, List.forall_mem_cons.mpr ⟨w_1_14, azX12_twoOf⟩⟩⟩)
theorem w_5_208 : Cond.methodLink RX12 139 yX12_isText ∈ lwG := lwG_of (mt_5 (List.mem_of_getElem? (i := 208) (by decide +kernel))) rfl
theorem w_5_209 : Cond.static yX12_isText ∈ lwG := lwG_of (mt_5 (List.mem_of_getElem? (i := 209) (by decide +kernel))) rfl
theorem gzX12_139 {a : Cond} : GoodIn (a :: lwG) (wsS RX12 139 yX12_isText wzX12_isText) := goodG (by
  show ∀ w ∈ (_ :: _), w ∈ lwG
  exact List.forall_mem_cons.mpr ⟨w_5_208, List.forall_mem_cons.mpr ⟨w_5_209, List.forall_mem_cons.mpr ⟨w_1_14, azX12_isText⟩⟩⟩)
theorem w_6_25 : Cond.methodLink RX12 153 yX12_isSeason ∈ lwG := lwG_of (mt_6 (List.mem_of_getElem? (i := 25) (by decide +kernel))) rfl
theorem w_6_26 : Cond.static yX12_isSeason ∈ lwG := lwG_of (mt_6 (List.mem_of_getElem? (i := 26) (by decide +kernel))) rfl
theorem gzX12_153 {a : Cond} : GoodIn (a :: lwG) (wsS RX12 153 yX12_isSeason wzX12_isSeason) := goodG (by
  show ∀ w ∈ (_ :: _), w ∈ lwG
  exact List.forall_mem_cons.mpr ⟨w_6_25, List.forall_mem_cons.mpr ⟨w_6_26, List.forall_mem_cons.mpr ⟨w_1_14, azX12_isSeason⟩⟩⟩)
theorem w_6_142 : Cond.methodLink RX12 216 yX12_isWeight ∈ lwG := lwG_of (mt_6 (List.mem_of_getElem? (i := 142) (by decide +kernel))) rfl
theorem w_6_143 : Cond.static yX12_isWeight ∈ lwG := lwG_of (mt_6 (List.mem_of_getElem? (i := 143) (by decide +kernel))) rfl
theorem gzX12_216 {a : Cond} : GoodIn (a :: lwG) (wsS RX12 216 yX12_isWeight wzX12_isWeight) := goodG (by
  show ∀ w ∈ (_ :: _), w ∈ lwG
  exact List.forall_mem_cons.mpr ⟨w_6_142, List.forall_mem_cons.mpr ⟨w_6_143, List.forall_mem_cons.mpr ⟨w_1_14, azX12_isWeight⟩⟩⟩)
theorem w_6_162 : Cond.methodLink RX12 223 yX12_divisor ∈ lwG := lwG_of (mt_6 (List.mem_of_getElem? (i := 162) (by decide +kernel))) rfl
theorem w_6_163 : Cond.static yX12_divisor ∈ lwG := lwG_of (mt_6 (List.mem_of_getElem? (i := 163) (by decide +kernel))) rfl
theorem gzX12_223 {a : Cond} : GoodIn (a :: lwG) (wsS RX12 223 yX12_divisor wzX12_divisor) := goodG (by
  show ∀ w ∈ (_ :: _), w ∈ lwG
  exact List.forall_mem_cons.mpr ⟨w_6_162, List.forall_mem_cons.mpr ⟨w_6_163, List.forall_mem_cons.mpr ⟨w_1_14, azX12_divisor⟩⟩⟩)
theorem w_6_223 : Cond.methodLink RX12 256 yX12_isKnown ∈ lwG := lwG_of (mt_6 (List.mem_of_getElem? (i := 223) (by decide +kernel))) rfl
theorem w_6_224 : Cond.static yX12_isKnown ∈ lwG := lwG_of (mt_6 (List.mem_of_getElem? (i := 224) (by decide +kernel))) rfl
theorem gzX12_256 {a : Cond} : GoodIn (a :: lwG) (wsS RX12 256 yX12_isKnown wzX12_isKnown) := goodG (by
  show ∀ w ∈ (_ :: _), w ∈ lwG
  exact List.forall_mem_cons.mpr ⟨w_6_223, List.forall_mem_cons.mpr ⟨w_6_224, List.forall_mem_cons.mpr ⟨w_1_14, azX12_isKnown⟩⟩⟩)
theorem w_6_238 : Cond.methodLink RX12 263 yX12_sizeOf ∈ lwG := lwG_of (mt_6 (List.mem_of_getElem? (i := 238) (by decide +kernel))) rfl
theorem w_6_239 : Cond.static yX12_sizeOf ∈ lwG := lwG_of (mt_6 (List.mem_of_getElem? (i := 239) (by decide +kernel))) rfl
theorem gzX12_263 {a : Cond} : GoodIn (a :: lwG) (wsS RX12 263 yX12_sizeOf wzX12_sizeOf) := goodG (by
  show ∀ w ∈ (_ :: _), w ∈ lwG
  exact List.forall_mem_cons.mpr ⟨w_6_238, List.forall_mem_cons.mpr ⟨w_6_239, List.forall_mem_cons.mpr ⟨w_1_14, azX12_sizeOf⟩⟩⟩)
theorem w_3_124 : Cond.methodLink RX2 49 Lib.Math.max.name ∈ lwG := lwG_of (mt_3 (List.mem_of_getElem? (i := 124) (by decide +kernel))) rfl
theorem mX2_49 {a : Cond} : Cond.methodLink RX2 49 Lib.Math.max.name ∈ a :: lwG := List.mem_cons_of_mem _ w_3_124
theorem w_3_125 : Cond.methodLink RX2 54 Lib.MathLoose.min_long.x ∈ lwG := lwG_of (mt_3 (List.mem_of_getElem? (i := 125) (by decide +kernel))) rfl
theorem mX2_54 {a : Cond} : Cond.methodLink RX2 54 Lib.MathLoose.min_long.x ∈ a :: lwG := List.mem_cons_of_mem _ w_3_125
theorem w_3_117 : Cond.methodLink RX2 68 yJ7_fill_d0a16 ∈ lwG := lwG_of (mt_3 (List.mem_of_getElem? (i := 117) (by decide +kernel))) rfl
theorem w_3_118 : Cond.static yJ7_fill_d0a16 ∈ lwG := lwG_of (mt_3 (List.mem_of_getElem? (i := 118) (by decide +kernel))) rfl
theorem gzX2_68 {a : Cond} : GoodIn (a :: lwG) (va_wsS RX2 68 yJ7_fill_d0a16 wzJ7_fill_d0a16) := goodG (by
  show ∀ w ∈ (_ :: _), w ∈ lwG
  exact List.forall_mem_cons.mpr ⟨w_3_117, List.forall_mem_cons.mpr ⟨w_3_118, List.forall_mem_cons.mpr ⟨w_1_15, azJ7_fill_d0a16⟩⟩⟩)
theorem w_4_222 : Cond.methodLink RX3 28 yJ7_fill_53178 ∈ lwG := lwG_of (mt_4 (List.mem_of_getElem? (i := 222) (by decide +kernel))) rfl
theorem gzX3_28 {a : Cond} : GoodIn (a :: lwG) (va_wsS RX3 28 yJ7_fill_53178 wzJ7_fill_53178) := goodG (by
  show ∀ w ∈ (_ :: _), w ∈ lwG
  exact List.forall_mem_cons.mpr ⟨w_4_222, List.forall_mem_cons.mpr ⟨w_4_72, List.forall_mem_cons.mpr ⟨w_1_15, azJ7_fill_53178⟩⟩⟩)
theorem w_4_219 : Cond.methodLink RX3 61 Lib.Math.abs.name ∈ lwG := lwG_of (mt_4 (List.mem_of_getElem? (i := 219) (by decide +kernel))) rfl
theorem mX3_61 {a : Cond} : Cond.methodLink RX3 61 Lib.Math.abs.name ∈ a :: lwG := List.mem_cons_of_mem _ w_4_219
theorem w_4_28 : Cond.methodLink RX4 42 yJ7_fill_d0a16 ∈ lwG := lwG_of (mt_4 (List.mem_of_getElem? (i := 28) (by decide +kernel))) rfl
theorem gzX4_42 {a : Cond} : GoodIn (a :: lwG) (va_wsS RX4 42 yJ7_fill_d0a16 wzJ7_fill_d0a16) := goodG (by
  show ∀ w ∈ (_ :: _), w ∈ lwG
  exact List.forall_mem_cons.mpr ⟨w_4_28, List.forall_mem_cons.mpr ⟨w_3_118, List.forall_mem_cons.mpr ⟨w_1_15, azJ7_fill_d0a16⟩⟩⟩)
theorem w_4_35 : Cond.methodLink RX4 74 yX4_pairOf ∈ lwG := lwG_of (mt_4 (List.mem_of_getElem? (i := 35) (by decide +kernel))) rfl
theorem w_4_36 : Cond.static yX4_pairOf ∈ lwG := lwG_of (mt_4 (List.mem_of_getElem? (i := 36) (by decide +kernel))) rfl
theorem w_1_8 : Cond.initialized RX4 ∈ lwG := lwG_of (mt_1 (List.mem_of_getElem? (i := 8) (by decide +kernel))) rfl
theorem gzX4_74 {a : Cond} : GoodIn (a :: lwG) (wsS RX4 74 yX4_pairOf wzX4_pairOf) := goodG (by
  show ∀ w ∈ (_ :: _), w ∈ lwG
  exact List.forall_mem_cons.mpr ⟨w_4_35, List.forall_mem_cons.mpr ⟨w_4_36, List.forall_mem_cons.mpr ⟨w_1_8, azX4_pairOf⟩⟩⟩)
theorem w_4_58 : Cond.methodLink RX4 85 Lib.Math.max.name ∈ lwG := lwG_of (mt_4 (List.mem_of_getElem? (i := 58) (by decide +kernel))) rfl
theorem mX4_85 {a : Cond} : Cond.methodLink RX4 85 Lib.Math.max.name ∈ a :: lwG := List.mem_cons_of_mem _ w_4_58
theorem w_4_71 : Cond.methodLink RX4 100 yJ7_fill_53178 ∈ lwG := lwG_of (mt_4 (List.mem_of_getElem? (i := 71) (by decide +kernel))) rfl
theorem gzX4_100 {a : Cond} : GoodIn (a :: lwG) (va_wsS RX4 100 yJ7_fill_53178 wzJ7_fill_53178) := goodG (by
  show ∀ w ∈ (_ :: _), w ∈ lwG
  exact List.forall_mem_cons.mpr ⟨w_4_71, List.forall_mem_cons.mpr ⟨w_4_72, List.forall_mem_cons.mpr ⟨w_1_15, azJ7_fill_53178⟩⟩⟩)
theorem w_4_82 : Cond.methodLink RX4 111 Lib.Math.min.name ∈ lwG := lwG_of (mt_4 (List.mem_of_getElem? (i := 82) (by decide +kernel))) rfl
theorem mX4_111 {a : Cond} : Cond.methodLink RX4 111 Lib.Math.min.name ∈ a :: lwG := List.mem_cons_of_mem _ w_4_82
theorem w_5_42 : Cond.methodLink RX5 73 Lib.MathLoose.min_long.x ∈ lwG := lwG_of (mt_5 (List.mem_of_getElem? (i := 42) (by decide +kernel))) rfl
theorem mX5_73 {a : Cond} : Cond.methodLink RX5 73 Lib.MathLoose.min_long.x ∈ a :: lwG := List.mem_cons_of_mem _ w_5_42
theorem w_4_178 : Cond.methodLink RX6 19 yJ7_fill_53178 ∈ lwG := lwG_of (mt_4 (List.mem_of_getElem? (i := 178) (by decide +kernel))) rfl
theorem gzX6_19 {a : Cond} : GoodIn (a :: lwG) (va_wsS RX6 19 yJ7_fill_53178 wzJ7_fill_53178) := goodG (by
  show ∀ w ∈ (_ :: _), w ∈ lwG
  exact List.forall_mem_cons.mpr ⟨w_4_178, List.forall_mem_cons.mpr ⟨w_4_72, List.forall_mem_cons.mpr ⟨w_1_15, azJ7_fill_53178⟩⟩⟩)
theorem w_3_8 : Cond.methodLink RX7 95 yX7_rank ∈ lwG := lwG_of (mt_3 (List.mem_of_getElem? (i := 8) (by decide +kernel))) rfl
theorem w_3_9 : Cond.static yX7_rank ∈ lwG := lwG_of (mt_3 (List.mem_of_getElem? (i := 9) (by decide +kernel))) rfl
theorem w_1_5 : Cond.initialized RX7 ∈ lwG := lwG_of (mt_1 (List.mem_of_getElem? (i := 5) (by decide +kernel))) rfl
theorem gzX7_95 {a : Cond} : GoodIn (a :: lwG) (wsS RX7 95 yX7_rank wzX7_rank) := goodG (by
  show ∀ w ∈ (_ :: _), w ∈ lwG
  exact List.forall_mem_cons.mpr ⟨w_3_8, List.forall_mem_cons.mpr ⟨w_3_9, List.forall_mem_cons.mpr ⟨w_1_5, azX7_rank⟩⟩⟩)
theorem w_1_38 : Cond.methodLink RX8 18 Lib.Math.max.name ∈ lwG := lwG_of (mt_1 (List.mem_of_getElem? (i := 38) (by decide +kernel))) rfl
theorem mX8_18 {a : Cond} : Cond.methodLink RX8 18 Lib.Math.max.name ∈ a :: lwG := List.mem_cons_of_mem _ w_1_38
theorem w_5_64 : Cond.methodLink RX8 42 Lib.Math.min.name ∈ lwG := lwG_of (mt_5 (List.mem_of_getElem? (i := 64) (by decide +kernel))) rfl
theorem mX8_42 {a : Cond} : Cond.methodLink RX8 42 Lib.Math.min.name ∈ a :: lwG := List.mem_cons_of_mem _ w_5_64
theorem w_5_65 : Cond.methodLink RX8 45 arraycopyName ∈ lwG := lwG_of (mt_5 (List.mem_of_getElem? (i := 65) (by decide +kernel))) rfl
theorem mX8_45 {a : Cond} : Cond.methodLink RX8 45 arraycopyName ∈ a :: lwG := List.mem_cons_of_mem _ w_5_65
theorem w_2_173 : Cond.methodLink RL 13 yX11_merchant ∈ lwG := lwG_of (mt_2 (List.mem_of_getElem? (i := 173) (by decide +kernel))) rfl
theorem w_2_174 : Cond.instanceMethod yX11_merchant ∈ lwG := lwG_of (mt_2 (List.mem_of_getElem? (i := 174) (by decide +kernel))) rfl
theorem w_2_175 : Cond.selects RX11 yX11_merchant yX11_merchant ∈ lwG := lwG_of (mt_2 (List.mem_of_getElem? (i := 175) (by decide +kernel))) rfl
theorem gzL_13 : GoodIn lwG (wsV RL 13 RX11 yX11_merchant wzX11_merchant) := goodGL (by
  show ∀ w ∈ (_ :: _), w ∈ lwG
  exact List.forall_mem_cons.mpr ⟨w_2_173, List.forall_mem_cons.mpr ⟨w_2_174, List.forall_mem_cons.mpr ⟨w_2_175, List.forall_mem_cons.mpr ⟨w_1_1, azX11_merchant⟩⟩⟩⟩)
theorem w_5_192 : Cond.methodLink RL 17 yX12_merchant ∈ lwG := lwG_of (mt_5 (List.mem_of_getElem? (i := 192) (by decide +kernel))) rfl
theorem w_5_193 : Cond.instanceMethod yX12_merchant ∈ lwG := lwG_of (mt_5 (List.mem_of_getElem? (i := 193) (by decide +kernel))) rfl
theorem w_5_194 : Cond.selects RX12 yX12_merchant yX12_merchant ∈ lwG := lwG_of (mt_5 (List.mem_of_getElem? (i := 194) (by decide +kernel))) rfl
theorem gzL_17 : GoodIn lwG (wsV RL 17 RX12 yX12_merchant wzX12_merchant) := goodGL (by
  show ∀ w ∈ (_ :: _), w ∈ lwG
  exact List.forall_mem_cons.mpr ⟨w_5_192, List.forall_mem_cons.mpr ⟨w_5_193, List.forall_mem_cons.mpr ⟨w_5_194, List.forall_mem_cons.mpr ⟨w_1_14, azX12_merchant⟩⟩⟩⟩)
theorem w_2_182 : Cond.methodLink RL 18 yX11_write ∈ lwG := lwG_of (mt_2 (List.mem_of_getElem? (i := 182) (by decide +kernel))) rfl
theorem w_2_183 : Cond.instanceMethod yX11_write ∈ lwG := lwG_of (mt_2 (List.mem_of_getElem? (i := 183) (by decide +kernel))) rfl
theorem w_2_184 : Cond.selects RX11 yX11_write yX11_write ∈ lwG := lwG_of (mt_2 (List.mem_of_getElem? (i := 184) (by decide +kernel))) rfl
theorem gzL_18 : GoodIn lwG (wsV RL 18 RX11 yX11_write wzX11_write) := goodGL (by
  show ∀ w ∈ (_ :: _), w ∈ lwG
  exact List.forall_mem_cons.mpr ⟨w_2_182, List.forall_mem_cons.mpr ⟨w_2_183, List.forall_mem_cons.mpr ⟨w_2_184, List.forall_mem_cons.mpr ⟨w_1_1, azX11_write⟩⟩⟩⟩)
theorem w_5_204 : Cond.methodLink RL 21 yX12_write ∈ lwG := lwG_of (mt_5 (List.mem_of_getElem? (i := 204) (by decide +kernel))) rfl
theorem w_5_205 : Cond.instanceMethod yX12_write ∈ lwG := lwG_of (mt_5 (List.mem_of_getElem? (i := 205) (by decide +kernel))) rfl
theorem w_5_206 : Cond.selects RX12 yX12_write yX12_write ∈ lwG := lwG_of (mt_5 (List.mem_of_getElem? (i := 206) (by decide +kernel))) rfl
theorem gzL_21 : GoodIn lwG (wsV RL 21 RX12 yX12_write wzX12_write) := goodGL (by
  show ∀ w ∈ (_ :: _), w ∈ lwG
  exact List.forall_mem_cons.mpr ⟨w_5_204, List.forall_mem_cons.mpr ⟨w_5_205, List.forall_mem_cons.mpr ⟨w_5_206, List.forall_mem_cons.mpr ⟨w_1_14, azX12_write⟩⟩⟩⟩)
theorem w_2_191 : Cond.methodLink RL 22 yX11_erase ∈ lwG := lwG_of (mt_2 (List.mem_of_getElem? (i := 191) (by decide +kernel))) rfl
theorem w_2_192 : Cond.instanceMethod yX11_erase ∈ lwG := lwG_of (mt_2 (List.mem_of_getElem? (i := 192) (by decide +kernel))) rfl
theorem w_2_193 : Cond.selects RX11 yX11_erase yX11_erase ∈ lwG := lwG_of (mt_2 (List.mem_of_getElem? (i := 193) (by decide +kernel))) rfl
theorem gzL_22 : GoodIn lwG (wsV RL 22 RX11 yX11_erase wzX11_erase) := goodGL (by
  show ∀ w ∈ (_ :: _), w ∈ lwG
  exact List.forall_mem_cons.mpr ⟨w_2_191, List.forall_mem_cons.mpr ⟨w_2_192, List.forall_mem_cons.mpr ⟨w_2_193, List.forall_mem_cons.mpr ⟨w_1_1, azX11_erase⟩⟩⟩⟩)
theorem w_5_213 : Cond.methodLink RL 26 yX12_erase ∈ lwG := lwG_of (mt_5 (List.mem_of_getElem? (i := 213) (by decide +kernel))) rfl
theorem w_5_214 : Cond.instanceMethod yX12_erase ∈ lwG := lwG_of (mt_5 (List.mem_of_getElem? (i := 214) (by decide +kernel))) rfl
theorem w_5_215 : Cond.selects RX12 yX12_erase yX12_erase ∈ lwG := lwG_of (mt_5 (List.mem_of_getElem? (i := 215) (by decide +kernel))) rfl
theorem gzL_26 : GoodIn lwG (wsV RL 26 RX12 yX12_erase wzX12_erase) := goodGL (by
  show ∀ w ∈ (_ :: _), w ∈ lwG
  exact List.forall_mem_cons.mpr ⟨w_5_213, List.forall_mem_cons.mpr ⟨w_5_214, List.forall_mem_cons.mpr ⟨w_5_215, List.forall_mem_cons.mpr ⟨w_1_14, azX12_erase⟩⟩⟩⟩)
theorem w_2_195 : Cond.methodLink RL 27 yX11_fault ∈ lwG := lwG_of (mt_2 (List.mem_of_getElem? (i := 195) (by decide +kernel))) rfl
theorem w_2_196 : Cond.instanceMethod yX11_fault ∈ lwG := lwG_of (mt_2 (List.mem_of_getElem? (i := 196) (by decide +kernel))) rfl
theorem w_2_197 : Cond.selects RX11 yX11_fault yX11_fault ∈ lwG := lwG_of (mt_2 (List.mem_of_getElem? (i := 197) (by decide +kernel))) rfl
theorem gzL_27 : GoodIn lwG (wsV RL 27 RX11 yX11_fault wzX11_fault) := goodGL (by
  show ∀ w ∈ (_ :: _), w ∈ lwG
  exact List.forall_mem_cons.mpr ⟨w_2_195, List.forall_mem_cons.mpr ⟨w_2_196, List.forall_mem_cons.mpr ⟨w_2_197, List.forall_mem_cons.mpr ⟨w_1_1, azX11_fault⟩⟩⟩⟩)
theorem w_5_221 : Cond.methodLink RL 30 yX12_fault ∈ lwG := lwG_of (mt_5 (List.mem_of_getElem? (i := 221) (by decide +kernel))) rfl
theorem w_5_222 : Cond.instanceMethod yX12_fault ∈ lwG := lwG_of (mt_5 (List.mem_of_getElem? (i := 222) (by decide +kernel))) rfl
theorem w_5_223 : Cond.selects RX12 yX12_fault yX12_fault ∈ lwG := lwG_of (mt_5 (List.mem_of_getElem? (i := 223) (by decide +kernel))) rfl
theorem gzL_30 : GoodIn lwG (wsV RL 30 RX12 yX12_fault wzX12_fault) := goodGL (by
  show ∀ w ∈ (_ :: _), w ∈ lwG
  exact List.forall_mem_cons.mpr ⟨w_5_221, List.forall_mem_cons.mpr ⟨w_5_222, List.forall_mem_cons.mpr ⟨w_5_223, List.forall_mem_cons.mpr ⟨w_1_14, azX12_fault⟩⟩⟩⟩)
theorem w_3_23 : Cond.methodLink RL 33 yX11_tells ∈ lwG := lwG_of (mt_3 (List.mem_of_getElem? (i := 23) (by decide +kernel))) rfl
theorem w_3_24 : Cond.instanceMethod yX11_tells ∈ lwG := lwG_of (mt_3 (List.mem_of_getElem? (i := 24) (by decide +kernel))) rfl
theorem w_3_25 : Cond.selects RX11 yX11_tells yX11_tells ∈ lwG := lwG_of (mt_3 (List.mem_of_getElem? (i := 25) (by decide +kernel))) rfl
theorem gzL_33 : GoodIn lwG (wsV RL 33 RX11 yX11_tells wzX11_tells) := goodGL (by
  show ∀ w ∈ (_ :: _), w ∈ lwG
  exact List.forall_mem_cons.mpr ⟨w_3_23, List.forall_mem_cons.mpr ⟨w_3_24, List.forall_mem_cons.mpr ⟨w_3_25, List.forall_mem_cons.mpr ⟨w_1_1, azX11_tells⟩⟩⟩⟩)
theorem w_6_20 : Cond.methodLink RL 37 yX12_tells ∈ lwG := lwG_of (mt_6 (List.mem_of_getElem? (i := 20) (by decide +kernel))) rfl
theorem w_6_21 : Cond.instanceMethod yX12_tells ∈ lwG := lwG_of (mt_6 (List.mem_of_getElem? (i := 21) (by decide +kernel))) rfl
theorem w_6_22 : Cond.selects RX12 yX12_tells yX12_tells ∈ lwG := lwG_of (mt_6 (List.mem_of_getElem? (i := 22) (by decide +kernel))) rfl
theorem gzL_37 : GoodIn lwG (wsV RL 37 RX12 yX12_tells wzX12_tells) := goodGL (by
  show ∀ w ∈ (_ :: _), w ∈ lwG
  exact List.forall_mem_cons.mpr ⟨w_6_20, List.forall_mem_cons.mpr ⟨w_6_21, List.forall_mem_cons.mpr ⟨w_6_22, List.forall_mem_cons.mpr ⟨w_1_14, azX12_tells⟩⟩⟩⟩)
theorem w_3_55 : Cond.methodLink RL 38 yX11_act ∈ lwG := lwG_of (mt_3 (List.mem_of_getElem? (i := 55) (by decide +kernel))) rfl
theorem w_3_56 : Cond.instanceMethod yX11_act ∈ lwG := lwG_of (mt_3 (List.mem_of_getElem? (i := 56) (by decide +kernel))) rfl
theorem w_3_57 : Cond.selects RX11 yX11_act yX11_act ∈ lwG := lwG_of (mt_3 (List.mem_of_getElem? (i := 57) (by decide +kernel))) rfl
theorem gzL_38 : GoodIn lwG (wsV RL 38 RX11 yX11_act wzX11_act) := goodGL (by
  show ∀ w ∈ (_ :: _), w ∈ lwG
  exact List.forall_mem_cons.mpr ⟨w_3_55, List.forall_mem_cons.mpr ⟨w_3_56, List.forall_mem_cons.mpr ⟨w_3_57, List.forall_mem_cons.mpr ⟨w_1_1, azX11_act⟩⟩⟩⟩)
theorem w_6_42 : Cond.methodLink RL 42 yX12_act ∈ lwG := lwG_of (mt_6 (List.mem_of_getElem? (i := 42) (by decide +kernel))) rfl
theorem w_6_43 : Cond.instanceMethod yX12_act ∈ lwG := lwG_of (mt_6 (List.mem_of_getElem? (i := 43) (by decide +kernel))) rfl
theorem w_6_44 : Cond.selects RX12 yX12_act yX12_act ∈ lwG := lwG_of (mt_6 (List.mem_of_getElem? (i := 44) (by decide +kernel))) rfl
theorem gzL_42 : GoodIn lwG (wsV RL 42 RX12 yX12_act wzX12_act) := goodGL (by
  show ∀ w ∈ (_ :: _), w ∈ lwG
  exact List.forall_mem_cons.mpr ⟨w_6_42, List.forall_mem_cons.mpr ⟨w_6_43, List.forall_mem_cons.mpr ⟨w_6_44, List.forall_mem_cons.mpr ⟨w_1_14, azX12_act⟩⟩⟩⟩)
theorem w_3_65 : Cond.methodLink RL 43 yX11_force ∈ lwG := lwG_of (mt_3 (List.mem_of_getElem? (i := 65) (by decide +kernel))) rfl
theorem w_3_66 : Cond.instanceMethod yX11_force ∈ lwG := lwG_of (mt_3 (List.mem_of_getElem? (i := 66) (by decide +kernel))) rfl
theorem w_3_67 : Cond.selects RX11 yX11_force yX11_force ∈ lwG := lwG_of (mt_3 (List.mem_of_getElem? (i := 67) (by decide +kernel))) rfl
theorem gzL_43 : GoodIn lwG (wsV RL 43 RX11 yX11_force wzX11_force) := goodGL (by
  show ∀ w ∈ (_ :: _), w ∈ lwG
  exact List.forall_mem_cons.mpr ⟨w_3_65, List.forall_mem_cons.mpr ⟨w_3_66, List.forall_mem_cons.mpr ⟨w_3_67, List.forall_mem_cons.mpr ⟨w_1_1, azX11_force⟩⟩⟩⟩)
theorem w_6_47 : Cond.methodLink RL 46 yX12_force ∈ lwG := lwG_of (mt_6 (List.mem_of_getElem? (i := 47) (by decide +kernel))) rfl
theorem w_6_48 : Cond.instanceMethod yX12_force ∈ lwG := lwG_of (mt_6 (List.mem_of_getElem? (i := 48) (by decide +kernel))) rfl
theorem w_6_49 : Cond.selects RX12 yX12_force yX12_force ∈ lwG := lwG_of (mt_6 (List.mem_of_getElem? (i := 49) (by decide +kernel))) rfl
theorem gzL_46 : GoodIn lwG (wsV RL 46 RX12 yX12_force wzX12_force) := goodGL (by
  show ∀ w ∈ (_ :: _), w ∈ lwG
  exact List.forall_mem_cons.mpr ⟨w_6_47, List.forall_mem_cons.mpr ⟨w_6_48, List.forall_mem_cons.mpr ⟨w_6_49, List.forall_mem_cons.mpr ⟨w_1_14, azX12_force⟩⟩⟩⟩)
theorem w_3_73 : Cond.methodLink RL 47 yX11_debt ∈ lwG := lwG_of (mt_3 (List.mem_of_getElem? (i := 73) (by decide +kernel))) rfl
theorem w_3_74 : Cond.instanceMethod yX11_debt ∈ lwG := lwG_of (mt_3 (List.mem_of_getElem? (i := 74) (by decide +kernel))) rfl
theorem w_3_75 : Cond.selects RX11 yX11_debt yX11_debt ∈ lwG := lwG_of (mt_3 (List.mem_of_getElem? (i := 75) (by decide +kernel))) rfl
theorem gzL_47 : GoodIn lwG (wsV RL 47 RX11 yX11_debt wzX11_debt) := goodGL (by
  show ∀ w ∈ (_ :: _), w ∈ lwG
  exact List.forall_mem_cons.mpr ⟨w_3_73, List.forall_mem_cons.mpr ⟨w_3_74, List.forall_mem_cons.mpr ⟨w_3_75, List.forall_mem_cons.mpr ⟨w_1_1, azX11_debt⟩⟩⟩⟩)
theorem w_6_55 : Cond.methodLink RL 51 yX12_debt ∈ lwG := lwG_of (mt_6 (List.mem_of_getElem? (i := 55) (by decide +kernel))) rfl
theorem w_6_56 : Cond.instanceMethod yX12_debt ∈ lwG := lwG_of (mt_6 (List.mem_of_getElem? (i := 56) (by decide +kernel))) rfl
theorem w_6_57 : Cond.selects RX12 yX12_debt yX12_debt ∈ lwG := lwG_of (mt_6 (List.mem_of_getElem? (i := 57) (by decide +kernel))) rfl
theorem gzL_51 : GoodIn lwG (wsV RL 51 RX12 yX12_debt wzX12_debt) := goodGL (by
  show ∀ w ∈ (_ :: _), w ∈ lwG
  exact List.forall_mem_cons.mpr ⟨w_6_55, List.forall_mem_cons.mpr ⟨w_6_56, List.forall_mem_cons.mpr ⟨w_6_57, List.forall_mem_cons.mpr ⟨w_1_14, azX12_debt⟩⟩⟩⟩)
theorem w_3_82 : Cond.methodLink RL 52 yX11_pay ∈ lwG := lwG_of (mt_3 (List.mem_of_getElem? (i := 82) (by decide +kernel))) rfl
theorem w_3_83 : Cond.instanceMethod yX11_pay ∈ lwG := lwG_of (mt_3 (List.mem_of_getElem? (i := 83) (by decide +kernel))) rfl
theorem w_3_84 : Cond.selects RX11 yX11_pay yX11_pay ∈ lwG := lwG_of (mt_3 (List.mem_of_getElem? (i := 84) (by decide +kernel))) rfl
theorem gzL_52 : GoodIn lwG (wsV RL 52 RX11 yX11_pay wzX11_pay) := goodGL (by
  show ∀ w ∈ (_ :: _), w ∈ lwG
  exact List.forall_mem_cons.mpr ⟨w_3_82, List.forall_mem_cons.mpr ⟨w_3_83, List.forall_mem_cons.mpr ⟨w_3_84, List.forall_mem_cons.mpr ⟨w_1_1, azX11_pay⟩⟩⟩⟩)
theorem w_6_64 : Cond.methodLink RL 55 yX12_pay ∈ lwG := lwG_of (mt_6 (List.mem_of_getElem? (i := 64) (by decide +kernel))) rfl
theorem w_6_65 : Cond.instanceMethod yX12_pay ∈ lwG := lwG_of (mt_6 (List.mem_of_getElem? (i := 65) (by decide +kernel))) rfl
theorem w_6_66 : Cond.selects RX12 yX12_pay yX12_pay ∈ lwG := lwG_of (mt_6 (List.mem_of_getElem? (i := 66) (by decide +kernel))) rfl
theorem gzL_55 : GoodIn lwG (wsV RL 55 RX12 yX12_pay wzX12_pay) := goodGL (by
  show ∀ w ∈ (_ :: _), w ∈ lwG
  exact List.forall_mem_cons.mpr ⟨w_6_64, List.forall_mem_cons.mpr ⟨w_6_65, List.forall_mem_cons.mpr ⟨w_6_66, List.forall_mem_cons.mpr ⟨w_1_14, azX12_pay⟩⟩⟩⟩)
theorem w_3_90 : Cond.methodLink RL 56 yX11_seal ∈ lwG := lwG_of (mt_3 (List.mem_of_getElem? (i := 90) (by decide +kernel))) rfl
theorem w_3_91 : Cond.instanceMethod yX11_seal ∈ lwG := lwG_of (mt_3 (List.mem_of_getElem? (i := 91) (by decide +kernel))) rfl
theorem w_3_92 : Cond.selects RX11 yX11_seal yX11_seal ∈ lwG := lwG_of (mt_3 (List.mem_of_getElem? (i := 92) (by decide +kernel))) rfl
theorem gzL_56 : GoodIn lwG (wsV RL 56 RX11 yX11_seal wzX11_seal) := goodGL (by
  show ∀ w ∈ (_ :: _), w ∈ lwG
  exact List.forall_mem_cons.mpr ⟨w_3_90, List.forall_mem_cons.mpr ⟨w_3_91, List.forall_mem_cons.mpr ⟨w_3_92, List.forall_mem_cons.mpr ⟨w_1_1, azX11_seal⟩⟩⟩⟩)
theorem w_6_72 : Cond.methodLink RL 59 yX12_seal ∈ lwG := lwG_of (mt_6 (List.mem_of_getElem? (i := 72) (by decide +kernel))) rfl
theorem w_6_73 : Cond.instanceMethod yX12_seal ∈ lwG := lwG_of (mt_6 (List.mem_of_getElem? (i := 73) (by decide +kernel))) rfl
theorem w_6_74 : Cond.selects RX12 yX12_seal yX12_seal ∈ lwG := lwG_of (mt_6 (List.mem_of_getElem? (i := 74) (by decide +kernel))) rfl
theorem gzL_59 : GoodIn lwG (wsV RL 59 RX12 yX12_seal wzX12_seal) := goodGL (by
  show ∀ w ∈ (_ :: _), w ∈ lwG
  exact List.forall_mem_cons.mpr ⟨w_6_72, List.forall_mem_cons.mpr ⟨w_6_73, List.forall_mem_cons.mpr ⟨w_6_74, List.forall_mem_cons.mpr ⟨w_1_14, azX12_seal⟩⟩⟩⟩)
theorem w_3_94 : Cond.methodLink RL 60 yX11_breaks ∈ lwG := lwG_of (mt_3 (List.mem_of_getElem? (i := 94) (by decide +kernel))) rfl
theorem w_3_95 : Cond.instanceMethod yX11_breaks ∈ lwG := lwG_of (mt_3 (List.mem_of_getElem? (i := 95) (by decide +kernel))) rfl
theorem w_3_96 : Cond.selects RX11 yX11_breaks yX11_breaks ∈ lwG := lwG_of (mt_3 (List.mem_of_getElem? (i := 96) (by decide +kernel))) rfl
theorem gzL_60 : GoodIn lwG (wsV RL 60 RX11 yX11_breaks wzX11_breaks) := goodGL (by
  show ∀ w ∈ (_ :: _), w ∈ lwG
  exact List.forall_mem_cons.mpr ⟨w_3_94, List.forall_mem_cons.mpr ⟨w_3_95, List.forall_mem_cons.mpr ⟨w_3_96, List.forall_mem_cons.mpr ⟨w_1_1, azX11_breaks⟩⟩⟩⟩)
theorem w_6_76 : Cond.methodLink RL 63 yX12_breaks ∈ lwG := lwG_of (mt_6 (List.mem_of_getElem? (i := 76) (by decide +kernel))) rfl
theorem w_6_77 : Cond.instanceMethod yX12_breaks ∈ lwG := lwG_of (mt_6 (List.mem_of_getElem? (i := 77) (by decide +kernel))) rfl
theorem w_6_78 : Cond.selects RX12 yX12_breaks yX12_breaks ∈ lwG := lwG_of (mt_6 (List.mem_of_getElem? (i := 78) (by decide +kernel))) rfl
theorem gzL_63 : GoodIn lwG (wsV RL 63 RX12 yX12_breaks wzX12_breaks) := goodGL (by
  show ∀ w ∈ (_ :: _), w ∈ lwG
  exact List.forall_mem_cons.mpr ⟨w_6_76, List.forall_mem_cons.mpr ⟨w_6_77, List.forall_mem_cons.mpr ⟨w_6_78, List.forall_mem_cons.mpr ⟨w_1_14, azX12_breaks⟩⟩⟩⟩)
theorem w_3_98 : Cond.methodLink RL 64 yX11_owed ∈ lwG := lwG_of (mt_3 (List.mem_of_getElem? (i := 98) (by decide +kernel))) rfl
theorem w_3_99 : Cond.instanceMethod yX11_owed ∈ lwG := lwG_of (mt_3 (List.mem_of_getElem? (i := 99) (by decide +kernel))) rfl
theorem w_3_100 : Cond.selects RX11 yX11_owed yX11_owed ∈ lwG := lwG_of (mt_3 (List.mem_of_getElem? (i := 100) (by decide +kernel))) rfl
theorem gzL_64 : GoodIn lwG (wsV RL 64 RX11 yX11_owed wzX11_owed) := goodGL (by
  show ∀ w ∈ (_ :: _), w ∈ lwG
  exact List.forall_mem_cons.mpr ⟨w_3_98, List.forall_mem_cons.mpr ⟨w_3_99, List.forall_mem_cons.mpr ⟨w_3_100, List.forall_mem_cons.mpr ⟨w_1_1, azX11_owed⟩⟩⟩⟩)
theorem w_6_80 : Cond.methodLink RL 68 yX12_owed ∈ lwG := lwG_of (mt_6 (List.mem_of_getElem? (i := 80) (by decide +kernel))) rfl
theorem w_6_81 : Cond.instanceMethod yX12_owed ∈ lwG := lwG_of (mt_6 (List.mem_of_getElem? (i := 81) (by decide +kernel))) rfl
theorem w_6_82 : Cond.selects RX12 yX12_owed yX12_owed ∈ lwG := lwG_of (mt_6 (List.mem_of_getElem? (i := 82) (by decide +kernel))) rfl
theorem gzL_68 : GoodIn lwG (wsV RL 68 RX12 yX12_owed wzX12_owed) := goodGL (by
  show ∀ w ∈ (_ :: _), w ∈ lwG
  exact List.forall_mem_cons.mpr ⟨w_6_80, List.forall_mem_cons.mpr ⟨w_6_81, List.forall_mem_cons.mpr ⟨w_6_82, List.forall_mem_cons.mpr ⟨w_1_14, azX12_owed⟩⟩⟩⟩)
theorem w_3_146 : Cond.methodLink RL 69 yX11_purse ∈ lwG := lwG_of (mt_3 (List.mem_of_getElem? (i := 146) (by decide +kernel))) rfl
theorem w_3_147 : Cond.instanceMethod yX11_purse ∈ lwG := lwG_of (mt_3 (List.mem_of_getElem? (i := 147) (by decide +kernel))) rfl
theorem w_3_148 : Cond.selects RX11 yX11_purse yX11_purse ∈ lwG := lwG_of (mt_3 (List.mem_of_getElem? (i := 148) (by decide +kernel))) rfl
theorem gzL_69 : GoodIn lwG (wsV RL 69 RX11 yX11_purse wzX11_purse) := goodGL (by
  show ∀ w ∈ (_ :: _), w ∈ lwG
  exact List.forall_mem_cons.mpr ⟨w_3_146, List.forall_mem_cons.mpr ⟨w_3_147, List.forall_mem_cons.mpr ⟨w_3_148, List.forall_mem_cons.mpr ⟨w_1_1, azX11_purse⟩⟩⟩⟩)
theorem w_6_107 : Cond.methodLink RL 72 yX12_purse ∈ lwG := lwG_of (mt_6 (List.mem_of_getElem? (i := 107) (by decide +kernel))) rfl
theorem w_6_108 : Cond.instanceMethod yX12_purse ∈ lwG := lwG_of (mt_6 (List.mem_of_getElem? (i := 108) (by decide +kernel))) rfl
theorem w_6_109 : Cond.selects RX12 yX12_purse yX12_purse ∈ lwG := lwG_of (mt_6 (List.mem_of_getElem? (i := 109) (by decide +kernel))) rfl
theorem gzL_72 : GoodIn lwG (wsV RL 72 RX12 yX12_purse wzX12_purse) := goodGL (by
  show ∀ w ∈ (_ :: _), w ∈ lwG
  exact List.forall_mem_cons.mpr ⟨w_6_107, List.forall_mem_cons.mpr ⟨w_6_108, List.forall_mem_cons.mpr ⟨w_6_109, List.forall_mem_cons.mpr ⟨w_1_14, azX12_purse⟩⟩⟩⟩)
theorem w_3_150 : Cond.methodLink RL 73 yX11_share ∈ lwG := lwG_of (mt_3 (List.mem_of_getElem? (i := 150) (by decide +kernel))) rfl
theorem w_3_151 : Cond.instanceMethod yX11_share ∈ lwG := lwG_of (mt_3 (List.mem_of_getElem? (i := 151) (by decide +kernel))) rfl
theorem w_3_152 : Cond.selects RX11 yX11_share yX11_share ∈ lwG := lwG_of (mt_3 (List.mem_of_getElem? (i := 152) (by decide +kernel))) rfl
theorem gzL_73 : GoodIn lwG (wsV RL 73 RX11 yX11_share wzX11_share) := goodGL (by
  show ∀ w ∈ (_ :: _), w ∈ lwG
  exact List.forall_mem_cons.mpr ⟨w_3_150, List.forall_mem_cons.mpr ⟨w_3_151, List.forall_mem_cons.mpr ⟨w_3_152, List.forall_mem_cons.mpr ⟨w_1_1, azX11_share⟩⟩⟩⟩)
theorem w_6_112 : Cond.methodLink RL 76 yX12_share ∈ lwG := lwG_of (mt_6 (List.mem_of_getElem? (i := 112) (by decide +kernel))) rfl
theorem w_6_113 : Cond.instanceMethod yX12_share ∈ lwG := lwG_of (mt_6 (List.mem_of_getElem? (i := 113) (by decide +kernel))) rfl
theorem w_6_114 : Cond.selects RX12 yX12_share yX12_share ∈ lwG := lwG_of (mt_6 (List.mem_of_getElem? (i := 114) (by decide +kernel))) rfl
theorem gzL_76 : GoodIn lwG (wsV RL 76 RX12 yX12_share wzX12_share) := goodGL (by
  show ∀ w ∈ (_ :: _), w ∈ lwG
  exact List.forall_mem_cons.mpr ⟨w_6_112, List.forall_mem_cons.mpr ⟨w_6_113, List.forall_mem_cons.mpr ⟨w_6_114, List.forall_mem_cons.mpr ⟨w_1_14, azX12_share⟩⟩⟩⟩)
theorem w_3_162 : Cond.methodLink RL 77 yX11_leave ∈ lwG := lwG_of (mt_3 (List.mem_of_getElem? (i := 162) (by decide +kernel))) rfl
theorem w_3_163 : Cond.instanceMethod yX11_leave ∈ lwG := lwG_of (mt_3 (List.mem_of_getElem? (i := 163) (by decide +kernel))) rfl
theorem w_3_164 : Cond.selects RX11 yX11_leave yX11_leave ∈ lwG := lwG_of (mt_3 (List.mem_of_getElem? (i := 164) (by decide +kernel))) rfl
theorem gzL_77 : GoodIn lwG (wsV RL 77 RX11 yX11_leave wzX11_leave) := goodGL (by
  show ∀ w ∈ (_ :: _), w ∈ lwG
  exact List.forall_mem_cons.mpr ⟨w_3_162, List.forall_mem_cons.mpr ⟨w_3_163, List.forall_mem_cons.mpr ⟨w_3_164, List.forall_mem_cons.mpr ⟨w_1_1, azX11_leave⟩⟩⟩⟩)
theorem w_6_125 : Cond.methodLink RL 80 yX12_leave ∈ lwG := lwG_of (mt_6 (List.mem_of_getElem? (i := 125) (by decide +kernel))) rfl
theorem w_6_126 : Cond.instanceMethod yX12_leave ∈ lwG := lwG_of (mt_6 (List.mem_of_getElem? (i := 126) (by decide +kernel))) rfl
theorem w_6_127 : Cond.selects RX12 yX12_leave yX12_leave ∈ lwG := lwG_of (mt_6 (List.mem_of_getElem? (i := 127) (by decide +kernel))) rfl
theorem gzL_80 : GoodIn lwG (wsV RL 80 RX12 yX12_leave wzX12_leave) := goodGL (by
  show ∀ w ∈ (_ :: _), w ∈ lwG
  exact List.forall_mem_cons.mpr ⟨w_6_125, List.forall_mem_cons.mpr ⟨w_6_126, List.forall_mem_cons.mpr ⟨w_6_127, List.forall_mem_cons.mpr ⟨w_1_14, azX12_leave⟩⟩⟩⟩)
theorem w_3_171 : Cond.methodLink RL 81 yX11_parted ∈ lwG := lwG_of (mt_3 (List.mem_of_getElem? (i := 171) (by decide +kernel))) rfl
theorem w_3_172 : Cond.instanceMethod yX11_parted ∈ lwG := lwG_of (mt_3 (List.mem_of_getElem? (i := 172) (by decide +kernel))) rfl
theorem w_3_173 : Cond.selects RX11 yX11_parted yX11_parted ∈ lwG := lwG_of (mt_3 (List.mem_of_getElem? (i := 173) (by decide +kernel))) rfl
theorem gzL_81 : GoodIn lwG (wsV RL 81 RX11 yX11_parted wzX11_parted) := goodGL (by
  show ∀ w ∈ (_ :: _), w ∈ lwG
  exact List.forall_mem_cons.mpr ⟨w_3_171, List.forall_mem_cons.mpr ⟨w_3_172, List.forall_mem_cons.mpr ⟨w_3_173, List.forall_mem_cons.mpr ⟨w_1_1, azX11_parted⟩⟩⟩⟩)
theorem w_6_129 : Cond.methodLink RL 84 yX12_parted ∈ lwG := lwG_of (mt_6 (List.mem_of_getElem? (i := 129) (by decide +kernel))) rfl
theorem w_6_130 : Cond.instanceMethod yX12_parted ∈ lwG := lwG_of (mt_6 (List.mem_of_getElem? (i := 130) (by decide +kernel))) rfl
theorem w_6_131 : Cond.selects RX12 yX12_parted yX12_parted ∈ lwG := lwG_of (mt_6 (List.mem_of_getElem? (i := 131) (by decide +kernel))) rfl
theorem gzL_84 : GoodIn lwG (wsV RL 84 RX12 yX12_parted wzX12_parted) := goodGL (by
  show ∀ w ∈ (_ :: _), w ∈ lwG
  exact List.forall_mem_cons.mpr ⟨w_6_129, List.forall_mem_cons.mpr ⟨w_6_130, List.forall_mem_cons.mpr ⟨w_6_131, List.forall_mem_cons.mpr ⟨w_1_14, azX12_parted⟩⟩⟩⟩)
theorem w_3_185 : Cond.methodLink RL 85 yX11_gate ∈ lwG := lwG_of (mt_3 (List.mem_of_getElem? (i := 185) (by decide +kernel))) rfl
theorem w_3_186 : Cond.instanceMethod yX11_gate ∈ lwG := lwG_of (mt_3 (List.mem_of_getElem? (i := 186) (by decide +kernel))) rfl
theorem w_3_187 : Cond.selects RX11 yX11_gate yX11_gate ∈ lwG := lwG_of (mt_3 (List.mem_of_getElem? (i := 187) (by decide +kernel))) rfl
theorem gzL_85 : GoodIn lwG (wsV RL 85 RX11 yX11_gate wzX11_gate) := goodGL (by
  show ∀ w ∈ (_ :: _), w ∈ lwG
  exact List.forall_mem_cons.mpr ⟨w_3_185, List.forall_mem_cons.mpr ⟨w_3_186, List.forall_mem_cons.mpr ⟨w_3_187, List.forall_mem_cons.mpr ⟨w_1_1, azX11_gate⟩⟩⟩⟩)
theorem w_6_134 : Cond.methodLink RL 88 yX12_gate ∈ lwG := lwG_of (mt_6 (List.mem_of_getElem? (i := 134) (by decide +kernel))) rfl
theorem w_6_135 : Cond.instanceMethod yX12_gate ∈ lwG := lwG_of (mt_6 (List.mem_of_getElem? (i := 135) (by decide +kernel))) rfl
theorem w_6_136 : Cond.selects RX12 yX12_gate yX12_gate ∈ lwG := lwG_of (mt_6 (List.mem_of_getElem? (i := 136) (by decide +kernel))) rfl
theorem gzL_88 : GoodIn lwG (wsV RL 88 RX12 yX12_gate wzX12_gate) := goodGL (by
  show ∀ w ∈ (_ :: _), w ∈ lwG
  exact List.forall_mem_cons.mpr ⟨w_6_134, List.forall_mem_cons.mpr ⟨w_6_135, List.forall_mem_cons.mpr ⟨w_6_136, List.forall_mem_cons.mpr ⟨w_1_14, azX12_gate⟩⟩⟩⟩)
theorem w_3_189 : Cond.methodLink RL 89 yX11_wide ∈ lwG := lwG_of (mt_3 (List.mem_of_getElem? (i := 189) (by decide +kernel))) rfl
theorem w_3_190 : Cond.instanceMethod yX11_wide ∈ lwG := lwG_of (mt_3 (List.mem_of_getElem? (i := 190) (by decide +kernel))) rfl
theorem w_3_191 : Cond.selects RX11 yX11_wide yX11_wide ∈ lwG := lwG_of (mt_3 (List.mem_of_getElem? (i := 191) (by decide +kernel))) rfl
theorem gzL_89 : GoodIn lwG (wsV RL 89 RX11 yX11_wide wzX11_wide) := goodGL (by
  show ∀ w ∈ (_ :: _), w ∈ lwG
  exact List.forall_mem_cons.mpr ⟨w_3_189, List.forall_mem_cons.mpr ⟨w_3_190, List.forall_mem_cons.mpr ⟨w_3_191, List.forall_mem_cons.mpr ⟨w_1_1, azX11_wide⟩⟩⟩⟩)
theorem w_6_138 : Cond.methodLink RL 92 yX12_wide ∈ lwG := lwG_of (mt_6 (List.mem_of_getElem? (i := 138) (by decide +kernel))) rfl
theorem w_6_139 : Cond.instanceMethod yX12_wide ∈ lwG := lwG_of (mt_6 (List.mem_of_getElem? (i := 139) (by decide +kernel))) rfl
theorem w_6_140 : Cond.selects RX12 yX12_wide yX12_wide ∈ lwG := lwG_of (mt_6 (List.mem_of_getElem? (i := 140) (by decide +kernel))) rfl
theorem gzL_92 : GoodIn lwG (wsV RL 92 RX12 yX12_wide wzX12_wide) := goodGL (by
  show ∀ w ∈ (_ :: _), w ∈ lwG
  exact List.forall_mem_cons.mpr ⟨w_6_138, List.forall_mem_cons.mpr ⟨w_6_139, List.forall_mem_cons.mpr ⟨w_6_140, List.forall_mem_cons.mpr ⟨w_1_14, azX12_wide⟩⟩⟩⟩)
theorem w_3_204 : Cond.methodLink RL 93 yX11_narrow ∈ lwG := lwG_of (mt_3 (List.mem_of_getElem? (i := 204) (by decide +kernel))) rfl
theorem w_3_205 : Cond.instanceMethod yX11_narrow ∈ lwG := lwG_of (mt_3 (List.mem_of_getElem? (i := 205) (by decide +kernel))) rfl
theorem w_3_206 : Cond.selects RX11 yX11_narrow yX11_narrow ∈ lwG := lwG_of (mt_3 (List.mem_of_getElem? (i := 206) (by decide +kernel))) rfl
theorem gzL_93 : GoodIn lwG (wsV RL 93 RX11 yX11_narrow wzX11_narrow) := goodGL (by
  show ∀ w ∈ (_ :: _), w ∈ lwG
  exact List.forall_mem_cons.mpr ⟨w_3_204, List.forall_mem_cons.mpr ⟨w_3_205, List.forall_mem_cons.mpr ⟨w_3_206, List.forall_mem_cons.mpr ⟨w_1_1, azX11_narrow⟩⟩⟩⟩)
theorem w_6_150 : Cond.methodLink RL 96 yX12_narrow ∈ lwG := lwG_of (mt_6 (List.mem_of_getElem? (i := 150) (by decide +kernel))) rfl
theorem w_6_151 : Cond.instanceMethod yX12_narrow ∈ lwG := lwG_of (mt_6 (List.mem_of_getElem? (i := 151) (by decide +kernel))) rfl
theorem w_6_152 : Cond.selects RX12 yX12_narrow yX12_narrow ∈ lwG := lwG_of (mt_6 (List.mem_of_getElem? (i := 152) (by decide +kernel))) rfl
theorem gzL_96 : GoodIn lwG (wsV RL 96 RX12 yX12_narrow wzX12_narrow) := goodGL (by
  show ∀ w ∈ (_ :: _), w ∈ lwG
  exact List.forall_mem_cons.mpr ⟨w_6_150, List.forall_mem_cons.mpr ⟨w_6_151, List.forall_mem_cons.mpr ⟨w_6_152, List.forall_mem_cons.mpr ⟨w_1_14, azX12_narrow⟩⟩⟩⟩)
theorem w_3_208 : Cond.methodLink RL 97 yX11_mean ∈ lwG := lwG_of (mt_3 (List.mem_of_getElem? (i := 208) (by decide +kernel))) rfl
theorem w_3_209 : Cond.instanceMethod yX11_mean ∈ lwG := lwG_of (mt_3 (List.mem_of_getElem? (i := 209) (by decide +kernel))) rfl
theorem w_3_210 : Cond.selects RX11 yX11_mean yX11_mean ∈ lwG := lwG_of (mt_3 (List.mem_of_getElem? (i := 210) (by decide +kernel))) rfl
theorem gzL_97 : GoodIn lwG (wsV RL 97 RX11 yX11_mean wzX11_mean) := goodGL (by
  show ∀ w ∈ (_ :: _), w ∈ lwG
  exact List.forall_mem_cons.mpr ⟨w_3_208, List.forall_mem_cons.mpr ⟨w_3_209, List.forall_mem_cons.mpr ⟨w_3_210, List.forall_mem_cons.mpr ⟨w_1_1, azX11_mean⟩⟩⟩⟩)
theorem w_6_154 : Cond.methodLink RL 100 yX12_mean ∈ lwG := lwG_of (mt_6 (List.mem_of_getElem? (i := 154) (by decide +kernel))) rfl
theorem w_6_155 : Cond.instanceMethod yX12_mean ∈ lwG := lwG_of (mt_6 (List.mem_of_getElem? (i := 155) (by decide +kernel))) rfl
theorem w_6_156 : Cond.selects RX12 yX12_mean yX12_mean ∈ lwG := lwG_of (mt_6 (List.mem_of_getElem? (i := 156) (by decide +kernel))) rfl
theorem gzL_100 : GoodIn lwG (wsV RL 100 RX12 yX12_mean wzX12_mean) := goodGL (by
  show ∀ w ∈ (_ :: _), w ∈ lwG
  exact List.forall_mem_cons.mpr ⟨w_6_154, List.forall_mem_cons.mpr ⟨w_6_155, List.forall_mem_cons.mpr ⟨w_6_156, List.forall_mem_cons.mpr ⟨w_1_14, azX12_mean⟩⟩⟩⟩)
theorem w_3_219 : Cond.methodLink RL 101 yX11_better ∈ lwG := lwG_of (mt_3 (List.mem_of_getElem? (i := 219) (by decide +kernel))) rfl
theorem w_3_220 : Cond.instanceMethod yX11_better ∈ lwG := lwG_of (mt_3 (List.mem_of_getElem? (i := 220) (by decide +kernel))) rfl
theorem w_3_221 : Cond.selects RX11 yX11_better yX11_better ∈ lwG := lwG_of (mt_3 (List.mem_of_getElem? (i := 221) (by decide +kernel))) rfl
theorem gzL_101 : GoodIn lwG (wsV RL 101 RX11 yX11_better wzX11_better) := goodGL (by
  show ∀ w ∈ (_ :: _), w ∈ lwG
  exact List.forall_mem_cons.mpr ⟨w_3_219, List.forall_mem_cons.mpr ⟨w_3_220, List.forall_mem_cons.mpr ⟨w_3_221, List.forall_mem_cons.mpr ⟨w_1_1, azX11_better⟩⟩⟩⟩)
theorem w_6_165 : Cond.methodLink RL 104 yX12_better ∈ lwG := lwG_of (mt_6 (List.mem_of_getElem? (i := 165) (by decide +kernel))) rfl
theorem w_6_166 : Cond.instanceMethod yX12_better ∈ lwG := lwG_of (mt_6 (List.mem_of_getElem? (i := 166) (by decide +kernel))) rfl
theorem w_6_167 : Cond.selects RX12 yX12_better yX12_better ∈ lwG := lwG_of (mt_6 (List.mem_of_getElem? (i := 167) (by decide +kernel))) rfl
theorem gzL_104 : GoodIn lwG (wsV RL 104 RX12 yX12_better wzX12_better) := goodGL (by
  show ∀ w ∈ (_ :: _), w ∈ lwG
  exact List.forall_mem_cons.mpr ⟨w_6_165, List.forall_mem_cons.mpr ⟨w_6_166, List.forall_mem_cons.mpr ⟨w_6_167, List.forall_mem_cons.mpr ⟨w_1_14, azX12_better⟩⟩⟩⟩)
theorem w_3_223 : Cond.methodLink RL 105 yX11_stone ∈ lwG := lwG_of (mt_3 (List.mem_of_getElem? (i := 223) (by decide +kernel))) rfl
theorem w_3_224 : Cond.instanceMethod yX11_stone ∈ lwG := lwG_of (mt_3 (List.mem_of_getElem? (i := 224) (by decide +kernel))) rfl
theorem w_3_225 : Cond.selects RX11 yX11_stone yX11_stone ∈ lwG := lwG_of (mt_3 (List.mem_of_getElem? (i := 225) (by decide +kernel))) rfl
theorem gzL_105 : GoodIn lwG (wsV RL 105 RX11 yX11_stone wzX11_stone) := goodGL (by
  show ∀ w ∈ (_ :: _), w ∈ lwG
  exact List.forall_mem_cons.mpr ⟨w_3_223, List.forall_mem_cons.mpr ⟨w_3_224, List.forall_mem_cons.mpr ⟨w_3_225, List.forall_mem_cons.mpr ⟨w_1_1, azX11_stone⟩⟩⟩⟩)
theorem w_6_169 : Cond.methodLink RL 108 yX12_stone ∈ lwG := lwG_of (mt_6 (List.mem_of_getElem? (i := 169) (by decide +kernel))) rfl
theorem w_6_170 : Cond.instanceMethod yX12_stone ∈ lwG := lwG_of (mt_6 (List.mem_of_getElem? (i := 170) (by decide +kernel))) rfl
theorem w_6_171 : Cond.selects RX12 yX12_stone yX12_stone ∈ lwG := lwG_of (mt_6 (List.mem_of_getElem? (i := 171) (by decide +kernel))) rfl
theorem gzL_108 : GoodIn lwG (wsV RL 108 RX12 yX12_stone wzX12_stone) := goodGL (by
  show ∀ w ∈ (_ :: _), w ∈ lwG
  exact List.forall_mem_cons.mpr ⟨w_6_169, List.forall_mem_cons.mpr ⟨w_6_170, List.forall_mem_cons.mpr ⟨w_6_171, List.forall_mem_cons.mpr ⟨w_1_14, azX12_stone⟩⟩⟩⟩)
theorem w_3_227 : Cond.methodLink RL 109 yX11_span ∈ lwG := lwG_of (mt_3 (List.mem_of_getElem? (i := 227) (by decide +kernel))) rfl
theorem w_3_228 : Cond.instanceMethod yX11_span ∈ lwG := lwG_of (mt_3 (List.mem_of_getElem? (i := 228) (by decide +kernel))) rfl
theorem w_3_229 : Cond.selects RX11 yX11_span yX11_span ∈ lwG := lwG_of (mt_3 (List.mem_of_getElem? (i := 229) (by decide +kernel))) rfl
theorem gzL_109 : GoodIn lwG (wsV RL 109 RX11 yX11_span wzX11_span) := goodGL (by
  show ∀ w ∈ (_ :: _), w ∈ lwG
  exact List.forall_mem_cons.mpr ⟨w_3_227, List.forall_mem_cons.mpr ⟨w_3_228, List.forall_mem_cons.mpr ⟨w_3_229, List.forall_mem_cons.mpr ⟨w_1_1, azX11_span⟩⟩⟩⟩)
theorem w_6_173 : Cond.methodLink RL 112 yX12_span ∈ lwG := lwG_of (mt_6 (List.mem_of_getElem? (i := 173) (by decide +kernel))) rfl
theorem w_6_174 : Cond.instanceMethod yX12_span ∈ lwG := lwG_of (mt_6 (List.mem_of_getElem? (i := 174) (by decide +kernel))) rfl
theorem w_6_175 : Cond.selects RX12 yX12_span yX12_span ∈ lwG := lwG_of (mt_6 (List.mem_of_getElem? (i := 175) (by decide +kernel))) rfl
theorem gzL_112 : GoodIn lwG (wsV RL 112 RX12 yX12_span wzX12_span) := goodGL (by
  show ∀ w ∈ (_ :: _), w ∈ lwG
  exact List.forall_mem_cons.mpr ⟨w_6_173, List.forall_mem_cons.mpr ⟨w_6_174, List.forall_mem_cons.mpr ⟨w_6_175, List.forall_mem_cons.mpr ⟨w_1_14, azX12_span⟩⟩⟩⟩)
theorem w_4_19 : Cond.methodLink RL 113 yX11_balance ∈ lwG := lwG_of (mt_4 (List.mem_of_getElem? (i := 19) (by decide +kernel))) rfl
theorem w_4_20 : Cond.instanceMethod yX11_balance ∈ lwG := lwG_of (mt_4 (List.mem_of_getElem? (i := 20) (by decide +kernel))) rfl
theorem w_4_21 : Cond.selects RX11 yX11_balance yX11_balance ∈ lwG := lwG_of (mt_4 (List.mem_of_getElem? (i := 21) (by decide +kernel))) rfl
theorem gzL_113 : GoodIn lwG (wsV RL 113 RX11 yX11_balance wzX11_balance) := goodGL (by
  show ∀ w ∈ (_ :: _), w ∈ lwG
  exact List.forall_mem_cons.mpr ⟨w_4_19, List.forall_mem_cons.mpr ⟨w_4_20, List.forall_mem_cons.mpr ⟨w_4_21, List.forall_mem_cons.mpr ⟨w_1_1, azX11_balance⟩⟩⟩⟩)
theorem w_6_177 : Cond.methodLink RL 116 yX12_balance ∈ lwG := lwG_of (mt_6 (List.mem_of_getElem? (i := 177) (by decide +kernel))) rfl
theorem w_6_178 : Cond.instanceMethod yX12_balance ∈ lwG := lwG_of (mt_6 (List.mem_of_getElem? (i := 178) (by decide +kernel))) rfl
theorem w_6_179 : Cond.selects RX12 yX12_balance yX12_balance ∈ lwG := lwG_of (mt_6 (List.mem_of_getElem? (i := 179) (by decide +kernel))) rfl
theorem gzL_116 : GoodIn lwG (wsV RL 116 RX12 yX12_balance wzX12_balance) := goodGL (by
  show ∀ w ∈ (_ :: _), w ∈ lwG
  exact List.forall_mem_cons.mpr ⟨w_6_177, List.forall_mem_cons.mpr ⟨w_6_178, List.forall_mem_cons.mpr ⟨w_6_179, List.forall_mem_cons.mpr ⟨w_1_14, azX12_balance⟩⟩⟩⟩)
theorem w_4_42 : Cond.methodLink RL 117 yX11_fewest ∈ lwG := lwG_of (mt_4 (List.mem_of_getElem? (i := 42) (by decide +kernel))) rfl
theorem w_4_43 : Cond.instanceMethod yX11_fewest ∈ lwG := lwG_of (mt_4 (List.mem_of_getElem? (i := 43) (by decide +kernel))) rfl
theorem w_4_44 : Cond.selects RX11 yX11_fewest yX11_fewest ∈ lwG := lwG_of (mt_4 (List.mem_of_getElem? (i := 44) (by decide +kernel))) rfl
theorem gzL_117 : GoodIn lwG (wsV RL 117 RX11 yX11_fewest wzX11_fewest) := goodGL (by
  show ∀ w ∈ (_ :: _), w ∈ lwG
  exact List.forall_mem_cons.mpr ⟨w_4_42, List.forall_mem_cons.mpr ⟨w_4_43, List.forall_mem_cons.mpr ⟨w_4_44, List.forall_mem_cons.mpr ⟨w_1_1, azX11_fewest⟩⟩⟩⟩)
theorem w_6_186 : Cond.methodLink RL 120 yX12_fewest ∈ lwG := lwG_of (mt_6 (List.mem_of_getElem? (i := 186) (by decide +kernel))) rfl
theorem w_6_187 : Cond.instanceMethod yX12_fewest ∈ lwG := lwG_of (mt_6 (List.mem_of_getElem? (i := 187) (by decide +kernel))) rfl
theorem w_6_188 : Cond.selects RX12 yX12_fewest yX12_fewest ∈ lwG := lwG_of (mt_6 (List.mem_of_getElem? (i := 188) (by decide +kernel))) rfl
theorem gzL_120 : GoodIn lwG (wsV RL 120 RX12 yX12_fewest wzX12_fewest) := goodGL (by
  show ∀ w ∈ (_ :: _), w ∈ lwG
  exact List.forall_mem_cons.mpr ⟨w_6_186, List.forall_mem_cons.mpr ⟨w_6_187, List.forall_mem_cons.mpr ⟨w_6_188, List.forall_mem_cons.mpr ⟨w_1_14, azX12_fewest⟩⟩⟩⟩)
theorem w_4_59 : Cond.methodLink RL 121 yX11_ring ∈ lwG := lwG_of (mt_4 (List.mem_of_getElem? (i := 59) (by decide +kernel))) rfl
theorem w_4_60 : Cond.instanceMethod yX11_ring ∈ lwG := lwG_of (mt_4 (List.mem_of_getElem? (i := 60) (by decide +kernel))) rfl
theorem w_4_61 : Cond.selects RX11 yX11_ring yX11_ring ∈ lwG := lwG_of (mt_4 (List.mem_of_getElem? (i := 61) (by decide +kernel))) rfl
theorem gzL_121 : GoodIn lwG (wsV RL 121 RX11 yX11_ring wzX11_ring) := goodGL (by
  show ∀ w ∈ (_ :: _), w ∈ lwG
  exact List.forall_mem_cons.mpr ⟨w_4_59, List.forall_mem_cons.mpr ⟨w_4_60, List.forall_mem_cons.mpr ⟨w_4_61, List.forall_mem_cons.mpr ⟨w_1_1, azX11_ring⟩⟩⟩⟩)
theorem w_6_190 : Cond.methodLink RL 124 yX12_ring ∈ lwG := lwG_of (mt_6 (List.mem_of_getElem? (i := 190) (by decide +kernel))) rfl
theorem w_6_191 : Cond.instanceMethod yX12_ring ∈ lwG := lwG_of (mt_6 (List.mem_of_getElem? (i := 191) (by decide +kernel))) rfl
theorem w_6_192 : Cond.selects RX12 yX12_ring yX12_ring ∈ lwG := lwG_of (mt_6 (List.mem_of_getElem? (i := 192) (by decide +kernel))) rfl
theorem gzL_124 : GoodIn lwG (wsV RL 124 RX12 yX12_ring wzX12_ring) := goodGL (by
  show ∀ w ∈ (_ :: _), w ∈ lwG
  exact List.forall_mem_cons.mpr ⟨w_6_190, List.forall_mem_cons.mpr ⟨w_6_191, List.forall_mem_cons.mpr ⟨w_6_192, List.forall_mem_cons.mpr ⟨w_1_14, azX12_ring⟩⟩⟩⟩)
theorem w_4_97 : Cond.methodLink RL 125 yX11_names ∈ lwG := lwG_of (mt_4 (List.mem_of_getElem? (i := 97) (by decide +kernel))) rfl
theorem w_4_98 : Cond.instanceMethod yX11_names ∈ lwG := lwG_of (mt_4 (List.mem_of_getElem? (i := 98) (by decide +kernel))) rfl
theorem w_4_99 : Cond.selects RX11 yX11_names yX11_names ∈ lwG := lwG_of (mt_4 (List.mem_of_getElem? (i := 99) (by decide +kernel))) rfl
theorem gzL_125 : GoodIn lwG (wsV RL 125 RX11 yX11_names wzX11_names) := goodGL (by
  show ∀ w ∈ (_ :: _), w ∈ lwG
  exact List.forall_mem_cons.mpr ⟨w_4_97, List.forall_mem_cons.mpr ⟨w_4_98, List.forall_mem_cons.mpr ⟨w_4_99, List.forall_mem_cons.mpr ⟨w_1_1, azX11_names⟩⟩⟩⟩)
theorem w_6_206 : Cond.methodLink RL 128 yX12_names ∈ lwG := lwG_of (mt_6 (List.mem_of_getElem? (i := 206) (by decide +kernel))) rfl
theorem w_6_207 : Cond.instanceMethod yX12_names ∈ lwG := lwG_of (mt_6 (List.mem_of_getElem? (i := 207) (by decide +kernel))) rfl
theorem w_6_208 : Cond.selects RX12 yX12_names yX12_names ∈ lwG := lwG_of (mt_6 (List.mem_of_getElem? (i := 208) (by decide +kernel))) rfl
theorem gzL_128 : GoodIn lwG (wsV RL 128 RX12 yX12_names wzX12_names) := goodGL (by
  show ∀ w ∈ (_ :: _), w ∈ lwG
  exact List.forall_mem_cons.mpr ⟨w_6_206, List.forall_mem_cons.mpr ⟨w_6_207, List.forall_mem_cons.mpr ⟨w_6_208, List.forall_mem_cons.mpr ⟨w_1_14, azX12_names⟩⟩⟩⟩)
theorem w_4_105 : Cond.methodLink RL 129 yX11_ahead ∈ lwG := lwG_of (mt_4 (List.mem_of_getElem? (i := 105) (by decide +kernel))) rfl
theorem w_4_106 : Cond.instanceMethod yX11_ahead ∈ lwG := lwG_of (mt_4 (List.mem_of_getElem? (i := 106) (by decide +kernel))) rfl
theorem w_4_107 : Cond.selects RX11 yX11_ahead yX11_ahead ∈ lwG := lwG_of (mt_4 (List.mem_of_getElem? (i := 107) (by decide +kernel))) rfl
theorem gzL_129 : GoodIn lwG (wsV RL 129 RX11 yX11_ahead wzX11_ahead) := goodGL (by
  show ∀ w ∈ (_ :: _), w ∈ lwG
  exact List.forall_mem_cons.mpr ⟨w_4_105, List.forall_mem_cons.mpr ⟨w_4_106, List.forall_mem_cons.mpr ⟨w_4_107, List.forall_mem_cons.mpr ⟨w_1_1, azX11_ahead⟩⟩⟩⟩)
theorem w_6_211 : Cond.methodLink RL 132 yX12_ahead ∈ lwG := lwG_of (mt_6 (List.mem_of_getElem? (i := 211) (by decide +kernel))) rfl
theorem w_6_212 : Cond.instanceMethod yX12_ahead ∈ lwG := lwG_of (mt_6 (List.mem_of_getElem? (i := 212) (by decide +kernel))) rfl
theorem w_6_213 : Cond.selects RX12 yX12_ahead yX12_ahead ∈ lwG := lwG_of (mt_6 (List.mem_of_getElem? (i := 213) (by decide +kernel))) rfl
theorem gzL_132 : GoodIn lwG (wsV RL 132 RX12 yX12_ahead wzX12_ahead) := goodGL (by
  show ∀ w ∈ (_ :: _), w ∈ lwG
  exact List.forall_mem_cons.mpr ⟨w_6_211, List.forall_mem_cons.mpr ⟨w_6_212, List.forall_mem_cons.mpr ⟨w_6_213, List.forall_mem_cons.mpr ⟨w_1_14, azX12_ahead⟩⟩⟩⟩)
theorem w_4_113 : Cond.methodLink RL 133 yX11_orders ∈ lwG := lwG_of (mt_4 (List.mem_of_getElem? (i := 113) (by decide +kernel))) rfl
theorem w_4_114 : Cond.instanceMethod yX11_orders ∈ lwG := lwG_of (mt_4 (List.mem_of_getElem? (i := 114) (by decide +kernel))) rfl
theorem w_4_115 : Cond.selects RX11 yX11_orders yX11_orders ∈ lwG := lwG_of (mt_4 (List.mem_of_getElem? (i := 115) (by decide +kernel))) rfl
theorem gzL_133 : GoodIn lwG (wsV RL 133 RX11 yX11_orders wzX11_orders) := goodGL (by
  show ∀ w ∈ (_ :: _), w ∈ lwG
  exact List.forall_mem_cons.mpr ⟨w_4_113, List.forall_mem_cons.mpr ⟨w_4_114, List.forall_mem_cons.mpr ⟨w_4_115, List.forall_mem_cons.mpr ⟨w_1_1, azX11_orders⟩⟩⟩⟩)
theorem w_6_219 : Cond.methodLink RL 136 yX12_orders ∈ lwG := lwG_of (mt_6 (List.mem_of_getElem? (i := 219) (by decide +kernel))) rfl
theorem w_6_220 : Cond.instanceMethod yX12_orders ∈ lwG := lwG_of (mt_6 (List.mem_of_getElem? (i := 220) (by decide +kernel))) rfl
theorem w_6_221 : Cond.selects RX12 yX12_orders yX12_orders ∈ lwG := lwG_of (mt_6 (List.mem_of_getElem? (i := 221) (by decide +kernel))) rfl
theorem gzL_136 : GoodIn lwG (wsV RL 136 RX12 yX12_orders wzX12_orders) := goodGL (by
  show ∀ w ∈ (_ :: _), w ∈ lwG
  exact List.forall_mem_cons.mpr ⟨w_6_219, List.forall_mem_cons.mpr ⟨w_6_220, List.forall_mem_cons.mpr ⟨w_6_221, List.forall_mem_cons.mpr ⟨w_1_14, azX12_orders⟩⟩⟩⟩)
theorem w_4_132 : Cond.methodLink RL 137 yX11_place ∈ lwG := lwG_of (mt_4 (List.mem_of_getElem? (i := 132) (by decide +kernel))) rfl
theorem w_4_133 : Cond.instanceMethod yX11_place ∈ lwG := lwG_of (mt_4 (List.mem_of_getElem? (i := 133) (by decide +kernel))) rfl
theorem w_4_134 : Cond.selects RX11 yX11_place yX11_place ∈ lwG := lwG_of (mt_4 (List.mem_of_getElem? (i := 134) (by decide +kernel))) rfl
theorem gzL_137 : GoodIn lwG (wsV RL 137 RX11 yX11_place wzX11_place) := goodGL (by
  show ∀ w ∈ (_ :: _), w ∈ lwG
  exact List.forall_mem_cons.mpr ⟨w_4_132, List.forall_mem_cons.mpr ⟨w_4_133, List.forall_mem_cons.mpr ⟨w_4_134, List.forall_mem_cons.mpr ⟨w_1_1, azX11_place⟩⟩⟩⟩)
theorem w_6_234 : Cond.methodLink RL 140 yX12_place ∈ lwG := lwG_of (mt_6 (List.mem_of_getElem? (i := 234) (by decide +kernel))) rfl
theorem w_6_235 : Cond.instanceMethod yX12_place ∈ lwG := lwG_of (mt_6 (List.mem_of_getElem? (i := 235) (by decide +kernel))) rfl
theorem w_6_236 : Cond.selects RX12 yX12_place yX12_place ∈ lwG := lwG_of (mt_6 (List.mem_of_getElem? (i := 236) (by decide +kernel))) rfl
theorem gzL_140 : GoodIn lwG (wsV RL 140 RX12 yX12_place wzX12_place) := goodGL (by
  show ∀ w ∈ (_ :: _), w ∈ lwG
  exact List.forall_mem_cons.mpr ⟨w_6_234, List.forall_mem_cons.mpr ⟨w_6_235, List.forall_mem_cons.mpr ⟨w_6_236, List.forall_mem_cons.mpr ⟨w_1_14, azX12_place⟩⟩⟩⟩)
theorem w_4_158 : Cond.methodLink RL 141 yX11_order ∈ lwG := lwG_of (mt_4 (List.mem_of_getElem? (i := 158) (by decide +kernel))) rfl
theorem w_4_159 : Cond.instanceMethod yX11_order ∈ lwG := lwG_of (mt_4 (List.mem_of_getElem? (i := 159) (by decide +kernel))) rfl
theorem w_4_160 : Cond.selects RX11 yX11_order yX11_order ∈ lwG := lwG_of (mt_4 (List.mem_of_getElem? (i := 160) (by decide +kernel))) rfl
theorem gzL_141 : GoodIn lwG (wsV RL 141 RX11 yX11_order wzX11_order) := goodGL (by
  show ∀ w ∈ (_ :: _), w ∈ lwG
  exact List.forall_mem_cons.mpr ⟨w_4_158, List.forall_mem_cons.mpr ⟨w_4_159, List.forall_mem_cons.mpr ⟨w_4_160, List.forall_mem_cons.mpr ⟨w_1_1, azX11_order⟩⟩⟩⟩)
theorem w_7_1 : Cond.methodLink RL 144 yX12_order ∈ lwG := lwG_of (mt_7 (List.mem_of_getElem? (i := 1) (by decide +kernel))) rfl
theorem w_7_2 : Cond.instanceMethod yX12_order ∈ lwG := lwG_of (mt_7 (List.mem_of_getElem? (i := 2) (by decide +kernel))) rfl
theorem w_7_3 : Cond.selects RX12 yX12_order yX12_order ∈ lwG := lwG_of (mt_7 (List.mem_of_getElem? (i := 3) (by decide +kernel))) rfl
theorem gzL_144 : GoodIn lwG (wsV RL 144 RX12 yX12_order wzX12_order) := goodGL (by
  show ∀ w ∈ (_ :: _), w ∈ lwG
  exact List.forall_mem_cons.mpr ⟨w_7_1, List.forall_mem_cons.mpr ⟨w_7_2, List.forall_mem_cons.mpr ⟨w_7_3, List.forall_mem_cons.mpr ⟨w_1_14, azX12_order⟩⟩⟩⟩)
theorem w_4_166 : Cond.methodLink RL 145 yX11_letter ∈ lwG := lwG_of (mt_4 (List.mem_of_getElem? (i := 166) (by decide +kernel))) rfl
theorem w_4_167 : Cond.instanceMethod yX11_letter ∈ lwG := lwG_of (mt_4 (List.mem_of_getElem? (i := 167) (by decide +kernel))) rfl
theorem w_4_168 : Cond.selects RX11 yX11_letter yX11_letter ∈ lwG := lwG_of (mt_4 (List.mem_of_getElem? (i := 168) (by decide +kernel))) rfl
theorem gzL_145 : GoodIn lwG (wsV RL 145 RX11 yX11_letter wzX11_letter) := goodGL (by
  show ∀ w ∈ (_ :: _), w ∈ lwG
  exact List.forall_mem_cons.mpr ⟨w_4_166, List.forall_mem_cons.mpr ⟨w_4_167, List.forall_mem_cons.mpr ⟨w_4_168, List.forall_mem_cons.mpr ⟨w_1_1, azX11_letter⟩⟩⟩⟩)
theorem w_7_5 : Cond.methodLink RL 148 yX12_letter ∈ lwG := lwG_of (mt_7 (List.mem_of_getElem? (i := 5) (by decide +kernel))) rfl
theorem w_7_6 : Cond.instanceMethod yX12_letter ∈ lwG := lwG_of (mt_7 (List.mem_of_getElem? (i := 6) (by decide +kernel))) rfl
theorem w_7_7 : Cond.selects RX12 yX12_letter yX12_letter ∈ lwG := lwG_of (mt_7 (List.mem_of_getElem? (i := 7) (by decide +kernel))) rfl
theorem gzL_148 : GoodIn lwG (wsV RL 148 RX12 yX12_letter wzX12_letter) := goodGL (by
  show ∀ w ∈ (_ :: _), w ∈ lwG
  exact List.forall_mem_cons.mpr ⟨w_7_5, List.forall_mem_cons.mpr ⟨w_7_6, List.forall_mem_cons.mpr ⟨w_7_7, List.forall_mem_cons.mpr ⟨w_1_14, azX12_letter⟩⟩⟩⟩)
theorem w_4_170 : Cond.methodLink RL 149 yX11_knows ∈ lwG := lwG_of (mt_4 (List.mem_of_getElem? (i := 170) (by decide +kernel))) rfl
theorem w_4_171 : Cond.instanceMethod yX11_knows ∈ lwG := lwG_of (mt_4 (List.mem_of_getElem? (i := 171) (by decide +kernel))) rfl
theorem w_4_172 : Cond.selects RX11 yX11_knows yX11_knows ∈ lwG := lwG_of (mt_4 (List.mem_of_getElem? (i := 172) (by decide +kernel))) rfl
theorem gzL_149 : GoodIn lwG (wsV RL 149 RX11 yX11_knows wzX11_knows) := goodGL (by
  show ∀ w ∈ (_ :: _), w ∈ lwG
  exact List.forall_mem_cons.mpr ⟨w_4_170, List.forall_mem_cons.mpr ⟨w_4_171, List.forall_mem_cons.mpr ⟨w_4_172, List.forall_mem_cons.mpr ⟨w_1_1, azX11_knows⟩⟩⟩⟩)
theorem w_7_12 : Cond.methodLink RL 152 yX12_knows ∈ lwG := lwG_of (mt_7 (List.mem_of_getElem? (i := 12) (by decide +kernel))) rfl
theorem w_7_13 : Cond.instanceMethod yX12_knows ∈ lwG := lwG_of (mt_7 (List.mem_of_getElem? (i := 13) (by decide +kernel))) rfl
theorem w_7_14 : Cond.selects RX12 yX12_knows yX12_knows ∈ lwG := lwG_of (mt_7 (List.mem_of_getElem? (i := 14) (by decide +kernel))) rfl
theorem gzL_152 : GoodIn lwG (wsV RL 152 RX12 yX12_knows wzX12_knows) := goodGL (by
  show ∀ w ∈ (_ :: _), w ∈ lwG
  exact List.forall_mem_cons.mpr ⟨w_7_12, List.forall_mem_cons.mpr ⟨w_7_13, List.forall_mem_cons.mpr ⟨w_7_14, List.forall_mem_cons.mpr ⟨w_1_14, azX12_knows⟩⟩⟩⟩)
theorem w_4_189 : Cond.methodLink RL 153 yX11_carries ∈ lwG := lwG_of (mt_4 (List.mem_of_getElem? (i := 189) (by decide +kernel))) rfl
theorem w_4_190 : Cond.instanceMethod yX11_carries ∈ lwG := lwG_of (mt_4 (List.mem_of_getElem? (i := 190) (by decide +kernel))) rfl
theorem w_4_191 : Cond.selects RX11 yX11_carries yX11_carries ∈ lwG := lwG_of (mt_4 (List.mem_of_getElem? (i := 191) (by decide +kernel))) rfl
theorem gzL_153 : GoodIn lwG (wsV RL 153 RX11 yX11_carries wzX11_carries) := goodGL (by
  show ∀ w ∈ (_ :: _), w ∈ lwG
  exact List.forall_mem_cons.mpr ⟨w_4_189, List.forall_mem_cons.mpr ⟨w_4_190, List.forall_mem_cons.mpr ⟨w_4_191, List.forall_mem_cons.mpr ⟨w_1_1, azX11_carries⟩⟩⟩⟩)
theorem w_7_24 : Cond.methodLink RL 156 yX12_carries ∈ lwG := lwG_of (mt_7 (List.mem_of_getElem? (i := 24) (by decide +kernel))) rfl
theorem w_7_25 : Cond.instanceMethod yX12_carries ∈ lwG := lwG_of (mt_7 (List.mem_of_getElem? (i := 25) (by decide +kernel))) rfl
theorem w_7_26 : Cond.selects RX12 yX12_carries yX12_carries ∈ lwG := lwG_of (mt_7 (List.mem_of_getElem? (i := 26) (by decide +kernel))) rfl
theorem gzL_156 : GoodIn lwG (wsV RL 156 RX12 yX12_carries wzX12_carries) := goodGL (by
  show ∀ w ∈ (_ :: _), w ∈ lwG
  exact List.forall_mem_cons.mpr ⟨w_7_24, List.forall_mem_cons.mpr ⟨w_7_25, List.forall_mem_cons.mpr ⟨w_7_26, List.forall_mem_cons.mpr ⟨w_1_14, azX12_carries⟩⟩⟩⟩)
theorem w_4_194 : Cond.methodLink RL 157 yX11_mention ∈ lwG := lwG_of (mt_4 (List.mem_of_getElem? (i := 194) (by decide +kernel))) rfl
theorem w_4_195 : Cond.instanceMethod yX11_mention ∈ lwG := lwG_of (mt_4 (List.mem_of_getElem? (i := 195) (by decide +kernel))) rfl
theorem w_4_196 : Cond.selects RX11 yX11_mention yX11_mention ∈ lwG := lwG_of (mt_4 (List.mem_of_getElem? (i := 196) (by decide +kernel))) rfl
theorem gzL_157 : GoodIn lwG (wsV RL 157 RX11 yX11_mention wzX11_mention) := goodGL (by
  show ∀ w ∈ (_ :: _), w ∈ lwG
  exact List.forall_mem_cons.mpr ⟨w_4_194, List.forall_mem_cons.mpr ⟨w_4_195, List.forall_mem_cons.mpr ⟨w_4_196, List.forall_mem_cons.mpr ⟨w_1_1, azX11_mention⟩⟩⟩⟩)
theorem w_7_28 : Cond.methodLink RL 160 yX12_mention ∈ lwG := lwG_of (mt_7 (List.mem_of_getElem? (i := 28) (by decide +kernel))) rfl
theorem w_7_29 : Cond.instanceMethod yX12_mention ∈ lwG := lwG_of (mt_7 (List.mem_of_getElem? (i := 29) (by decide +kernel))) rfl
theorem w_7_30 : Cond.selects RX12 yX12_mention yX12_mention ∈ lwG := lwG_of (mt_7 (List.mem_of_getElem? (i := 30) (by decide +kernel))) rfl
theorem gzL_160 : GoodIn lwG (wsV RL 160 RX12 yX12_mention wzX12_mention) := goodGL (by
  show ∀ w ∈ (_ :: _), w ∈ lwG
  exact List.forall_mem_cons.mpr ⟨w_7_28, List.forall_mem_cons.mpr ⟨w_7_29, List.forall_mem_cons.mpr ⟨w_7_30, List.forall_mem_cons.mpr ⟨w_1_14, azX12_mention⟩⟩⟩⟩)
theorem w_4_198 : Cond.methodLink RL 161 yX11_men ∈ lwG := lwG_of (mt_4 (List.mem_of_getElem? (i := 198) (by decide +kernel))) rfl
theorem w_4_199 : Cond.instanceMethod yX11_men ∈ lwG := lwG_of (mt_4 (List.mem_of_getElem? (i := 199) (by decide +kernel))) rfl
theorem w_4_200 : Cond.selects RX11 yX11_men yX11_men ∈ lwG := lwG_of (mt_4 (List.mem_of_getElem? (i := 200) (by decide +kernel))) rfl
theorem gzL_161 : GoodIn lwG (wsV RL 161 RX11 yX11_men wzX11_men) := goodGL (by
  show ∀ w ∈ (_ :: _), w ∈ lwG
  exact List.forall_mem_cons.mpr ⟨w_4_198, List.forall_mem_cons.mpr ⟨w_4_199, List.forall_mem_cons.mpr ⟨w_4_200, List.forall_mem_cons.mpr ⟨w_1_1, azX11_men⟩⟩⟩⟩)
theorem w_7_32 : Cond.methodLink RL 164 yX12_men ∈ lwG := lwG_of (mt_7 (List.mem_of_getElem? (i := 32) (by decide +kernel))) rfl
theorem w_7_33 : Cond.instanceMethod yX12_men ∈ lwG := lwG_of (mt_7 (List.mem_of_getElem? (i := 33) (by decide +kernel))) rfl
theorem w_7_34 : Cond.selects RX12 yX12_men yX12_men ∈ lwG := lwG_of (mt_7 (List.mem_of_getElem? (i := 34) (by decide +kernel))) rfl
theorem gzL_164 : GoodIn lwG (wsV RL 164 RX12 yX12_men wzX12_men) := goodGL (by
  show ∀ w ∈ (_ :: _), w ∈ lwG
  exact List.forall_mem_cons.mpr ⟨w_7_32, List.forall_mem_cons.mpr ⟨w_7_33, List.forall_mem_cons.mpr ⟨w_7_34, List.forall_mem_cons.mpr ⟨w_1_14, azX12_men⟩⟩⟩⟩)
theorem w_4_239 : Cond.methodLink RL 165 yX11_load ∈ lwG := lwG_of (mt_4 (List.mem_of_getElem? (i := 239) (by decide +kernel))) rfl
theorem w_5_0 : Cond.instanceMethod yX11_load ∈ lwG := lwG_of (mt_5 (List.mem_of_getElem? (i := 0) (by decide +kernel))) rfl
theorem w_5_1 : Cond.selects RX11 yX11_load yX11_load ∈ lwG := lwG_of (mt_5 (List.mem_of_getElem? (i := 1) (by decide +kernel))) rfl
theorem gzL_165 : GoodIn lwG (wsV RL 165 RX11 yX11_load wzX11_load) := goodGL (by
  show ∀ w ∈ (_ :: _), w ∈ lwG
  exact List.forall_mem_cons.mpr ⟨w_4_239, List.forall_mem_cons.mpr ⟨w_5_0, List.forall_mem_cons.mpr ⟨w_5_1, List.forall_mem_cons.mpr ⟨w_1_1, azX11_load⟩⟩⟩⟩)
theorem w_7_50 : Cond.methodLink RL 168 yX12_load ∈ lwG := lwG_of (mt_7 (List.mem_of_getElem? (i := 50) (by decide +kernel))) rfl
theorem w_7_51 : Cond.instanceMethod yX12_load ∈ lwG := lwG_of (mt_7 (List.mem_of_getElem? (i := 51) (by decide +kernel))) rfl
theorem w_7_52 : Cond.selects RX12 yX12_load yX12_load ∈ lwG := lwG_of (mt_7 (List.mem_of_getElem? (i := 52) (by decide +kernel))) rfl
theorem gzL_168 : GoodIn lwG (wsV RL 168 RX12 yX12_load wzX12_load) := goodGL (by
  show ∀ w ∈ (_ :: _), w ∈ lwG
  exact List.forall_mem_cons.mpr ⟨w_7_50, List.forall_mem_cons.mpr ⟨w_7_51, List.forall_mem_cons.mpr ⟨w_7_52, List.forall_mem_cons.mpr ⟨w_1_14, azX12_load⟩⟩⟩⟩)
theorem w_5_3 : Cond.methodLink RL 169 yX11_unload ∈ lwG := lwG_of (mt_5 (List.mem_of_getElem? (i := 3) (by decide +kernel))) rfl
theorem w_5_4 : Cond.instanceMethod yX11_unload ∈ lwG := lwG_of (mt_5 (List.mem_of_getElem? (i := 4) (by decide +kernel))) rfl
theorem w_5_5 : Cond.selects RX11 yX11_unload yX11_unload ∈ lwG := lwG_of (mt_5 (List.mem_of_getElem? (i := 5) (by decide +kernel))) rfl
theorem gzL_169 : GoodIn lwG (wsV RL 169 RX11 yX11_unload wzX11_unload) := goodGL (by
  show ∀ w ∈ (_ :: _), w ∈ lwG
  exact List.forall_mem_cons.mpr ⟨w_5_3, List.forall_mem_cons.mpr ⟨w_5_4, List.forall_mem_cons.mpr ⟨w_5_5, List.forall_mem_cons.mpr ⟨w_1_1, azX11_unload⟩⟩⟩⟩)
theorem w_7_54 : Cond.methodLink RL 173 yX12_unload ∈ lwG := lwG_of (mt_7 (List.mem_of_getElem? (i := 54) (by decide +kernel))) rfl
theorem w_7_55 : Cond.instanceMethod yX12_unload ∈ lwG := lwG_of (mt_7 (List.mem_of_getElem? (i := 55) (by decide +kernel))) rfl
theorem w_7_56 : Cond.selects RX12 yX12_unload yX12_unload ∈ lwG := lwG_of (mt_7 (List.mem_of_getElem? (i := 56) (by decide +kernel))) rfl
theorem gzL_173 : GoodIn lwG (wsV RL 173 RX12 yX12_unload wzX12_unload) := goodGL (by
  show ∀ w ∈ (_ :: _), w ∈ lwG
  exact List.forall_mem_cons.mpr ⟨w_7_54, List.forall_mem_cons.mpr ⟨w_7_55, List.forall_mem_cons.mpr ⟨w_7_56, List.forall_mem_cons.mpr ⟨w_1_14, azX12_unload⟩⟩⟩⟩)
theorem w_5_7 : Cond.methodLink RL 174 yX11_price ∈ lwG := lwG_of (mt_5 (List.mem_of_getElem? (i := 7) (by decide +kernel))) rfl
theorem w_5_8 : Cond.instanceMethod yX11_price ∈ lwG := lwG_of (mt_5 (List.mem_of_getElem? (i := 8) (by decide +kernel))) rfl
theorem w_5_9 : Cond.selects RX11 yX11_price yX11_price ∈ lwG := lwG_of (mt_5 (List.mem_of_getElem? (i := 9) (by decide +kernel))) rfl
theorem gzL_174 : GoodIn lwG (wsV RL 174 RX11 yX11_price wzX11_price) := goodGL (by
  show ∀ w ∈ (_ :: _), w ∈ lwG
  exact List.forall_mem_cons.mpr ⟨w_5_7, List.forall_mem_cons.mpr ⟨w_5_8, List.forall_mem_cons.mpr ⟨w_5_9, List.forall_mem_cons.mpr ⟨w_1_1, azX11_price⟩⟩⟩⟩)
theorem w_7_58 : Cond.methodLink RL 177 yX12_price ∈ lwG := lwG_of (mt_7 (List.mem_of_getElem? (i := 58) (by decide +kernel))) rfl
theorem w_7_59 : Cond.instanceMethod yX12_price ∈ lwG := lwG_of (mt_7 (List.mem_of_getElem? (i := 59) (by decide +kernel))) rfl
theorem w_7_60 : Cond.selects RX12 yX12_price yX12_price ∈ lwG := lwG_of (mt_7 (List.mem_of_getElem? (i := 60) (by decide +kernel))) rfl
theorem gzL_177 : GoodIn lwG (wsV RL 177 RX12 yX12_price wzX12_price) := goodGL (by
  show ∀ w ∈ (_ :: _), w ∈ lwG
  exact List.forall_mem_cons.mpr ⟨w_7_58, List.forall_mem_cons.mpr ⟨w_7_59, List.forall_mem_cons.mpr ⟨w_7_60, List.forall_mem_cons.mpr ⟨w_1_14, azX12_price⟩⟩⟩⟩)
theorem w_5_11 : Cond.methodLink RL 178 yX11_plan ∈ lwG := lwG_of (mt_5 (List.mem_of_getElem? (i := 11) (by decide +kernel))) rfl
theorem w_5_12 : Cond.instanceMethod yX11_plan ∈ lwG := lwG_of (mt_5 (List.mem_of_getElem? (i := 12) (by decide +kernel))) rfl
theorem w_5_13 : Cond.selects RX11 yX11_plan yX11_plan ∈ lwG := lwG_of (mt_5 (List.mem_of_getElem? (i := 13) (by decide +kernel))) rfl
theorem gzL_178 : GoodIn lwG (wsV RL 178 RX11 yX11_plan wzX11_plan) := goodGL (by
  show ∀ w ∈ (_ :: _), w ∈ lwG
  exact List.forall_mem_cons.mpr ⟨w_5_11, List.forall_mem_cons.mpr ⟨w_5_12, List.forall_mem_cons.mpr ⟨w_5_13, List.forall_mem_cons.mpr ⟨w_1_1, azX11_plan⟩⟩⟩⟩)
theorem w_7_62 : Cond.methodLink RL 181 yX12_plan ∈ lwG := lwG_of (mt_7 (List.mem_of_getElem? (i := 62) (by decide +kernel))) rfl
theorem w_7_63 : Cond.instanceMethod yX12_plan ∈ lwG := lwG_of (mt_7 (List.mem_of_getElem? (i := 63) (by decide +kernel))) rfl
theorem w_7_64 : Cond.selects RX12 yX12_plan yX12_plan ∈ lwG := lwG_of (mt_7 (List.mem_of_getElem? (i := 64) (by decide +kernel))) rfl
theorem gzL_181 : GoodIn lwG (wsV RL 181 RX12 yX12_plan wzX12_plan) := goodGL (by
  show ∀ w ∈ (_ :: _), w ∈ lwG
  exact List.forall_mem_cons.mpr ⟨w_7_62, List.forall_mem_cons.mpr ⟨w_7_63, List.forall_mem_cons.mpr ⟨w_7_64, List.forall_mem_cons.mpr ⟨w_1_14, azX12_plan⟩⟩⟩⟩)
theorem w_5_47 : Cond.methodLink RL 182 yX11_part ∈ lwG := lwG_of (mt_5 (List.mem_of_getElem? (i := 47) (by decide +kernel))) rfl
theorem w_5_48 : Cond.instanceMethod yX11_part ∈ lwG := lwG_of (mt_5 (List.mem_of_getElem? (i := 48) (by decide +kernel))) rfl
theorem w_5_49 : Cond.selects RX11 yX11_part yX11_part ∈ lwG := lwG_of (mt_5 (List.mem_of_getElem? (i := 49) (by decide +kernel))) rfl
theorem gzL_182 : GoodIn lwG (wsV RL 182 RX11 yX11_part wzX11_part) := goodGL (by
  show ∀ w ∈ (_ :: _), w ∈ lwG
  exact List.forall_mem_cons.mpr ⟨w_5_47, List.forall_mem_cons.mpr ⟨w_5_48, List.forall_mem_cons.mpr ⟨w_5_49, List.forall_mem_cons.mpr ⟨w_1_1, azX11_part⟩⟩⟩⟩)
theorem w_7_70 : Cond.methodLink RL 186 yX12_part ∈ lwG := lwG_of (mt_7 (List.mem_of_getElem? (i := 70) (by decide +kernel))) rfl
theorem w_7_71 : Cond.instanceMethod yX12_part ∈ lwG := lwG_of (mt_7 (List.mem_of_getElem? (i := 71) (by decide +kernel))) rfl
theorem w_7_72 : Cond.selects RX12 yX12_part yX12_part ∈ lwG := lwG_of (mt_7 (List.mem_of_getElem? (i := 72) (by decide +kernel))) rfl
theorem gzL_186 : GoodIn lwG (wsV RL 186 RX12 yX12_part wzX12_part) := goodGL (by
  show ∀ w ∈ (_ :: _), w ∈ lwG
  exact List.forall_mem_cons.mpr ⟨w_7_70, List.forall_mem_cons.mpr ⟨w_7_71, List.forall_mem_cons.mpr ⟨w_7_72, List.forall_mem_cons.mpr ⟨w_1_14, azX12_part⟩⟩⟩⟩)
theorem w_5_52 : Cond.methodLink RL 187 yX11_image ∈ lwG := lwG_of (mt_5 (List.mem_of_getElem? (i := 52) (by decide +kernel))) rfl
theorem w_5_53 : Cond.instanceMethod yX11_image ∈ lwG := lwG_of (mt_5 (List.mem_of_getElem? (i := 53) (by decide +kernel))) rfl
theorem w_5_54 : Cond.selects RX11 yX11_image yX11_image ∈ lwG := lwG_of (mt_5 (List.mem_of_getElem? (i := 54) (by decide +kernel))) rfl
theorem gzL_187 : GoodIn lwG (wsV RL 187 RX11 yX11_image wzX11_image) := goodGL (by
  show ∀ w ∈ (_ :: _), w ∈ lwG
  exact List.forall_mem_cons.mpr ⟨w_5_52, List.forall_mem_cons.mpr ⟨w_5_53, List.forall_mem_cons.mpr ⟨w_5_54, List.forall_mem_cons.mpr ⟨w_1_1, azX11_image⟩⟩⟩⟩)
theorem w_7_74 : Cond.methodLink RL 190 yX12_image ∈ lwG := lwG_of (mt_7 (List.mem_of_getElem? (i := 74) (by decide +kernel))) rfl
theorem w_7_75 : Cond.instanceMethod yX12_image ∈ lwG := lwG_of (mt_7 (List.mem_of_getElem? (i := 75) (by decide +kernel))) rfl
theorem w_7_76 : Cond.selects RX12 yX12_image yX12_image ∈ lwG := lwG_of (mt_7 (List.mem_of_getElem? (i := 76) (by decide +kernel))) rfl
theorem gzL_190 : GoodIn lwG (wsV RL 190 RX12 yX12_image wzX12_image) := goodGL (by
  show ∀ w ∈ (_ :: _), w ∈ lwG
  exact List.forall_mem_cons.mpr ⟨w_7_74, List.forall_mem_cons.mpr ⟨w_7_75, List.forall_mem_cons.mpr ⟨w_7_76, List.forall_mem_cons.mpr ⟨w_1_14, azX12_image⟩⟩⟩⟩)
theorem w_5_68 : Cond.methodLink RL 191 yX11_from ∈ lwG := lwG_of (mt_5 (List.mem_of_getElem? (i := 68) (by decide +kernel))) rfl
theorem w_5_69 : Cond.instanceMethod yX11_from ∈ lwG := lwG_of (mt_5 (List.mem_of_getElem? (i := 69) (by decide +kernel))) rfl
theorem w_5_70 : Cond.selects RX11 yX11_from yX11_from ∈ lwG := lwG_of (mt_5 (List.mem_of_getElem? (i := 70) (by decide +kernel))) rfl
theorem gzL_191 : GoodIn lwG (wsV RL 191 RX11 yX11_from wzX11_from) := goodGL (by
  show ∀ w ∈ (_ :: _), w ∈ lwG
  exact List.forall_mem_cons.mpr ⟨w_5_68, List.forall_mem_cons.mpr ⟨w_5_69, List.forall_mem_cons.mpr ⟨w_5_70, List.forall_mem_cons.mpr ⟨w_1_1, azX11_from⟩⟩⟩⟩)
theorem w_7_78 : Cond.methodLink RL 194 yX12_from ∈ lwG := lwG_of (mt_7 (List.mem_of_getElem? (i := 78) (by decide +kernel))) rfl
theorem w_7_79 : Cond.instanceMethod yX12_from ∈ lwG := lwG_of (mt_7 (List.mem_of_getElem? (i := 79) (by decide +kernel))) rfl
theorem w_7_80 : Cond.selects RX12 yX12_from yX12_from ∈ lwG := lwG_of (mt_7 (List.mem_of_getElem? (i := 80) (by decide +kernel))) rfl
theorem gzL_194 : GoodIn lwG (wsV RL 194 RX12 yX12_from wzX12_from) := goodGL (by
  show ∀ w ∈ (_ :: _), w ∈ lwG
  exact List.forall_mem_cons.mpr ⟨w_7_78, List.forall_mem_cons.mpr ⟨w_7_79, List.forall_mem_cons.mpr ⟨w_7_80, List.forall_mem_cons.mpr ⟨w_1_14, azX12_from⟩⟩⟩⟩)
theorem w_5_72 : Cond.methodLink RL 195 yX11_count ∈ lwG := lwG_of (mt_5 (List.mem_of_getElem? (i := 72) (by decide +kernel))) rfl
theorem w_5_73 : Cond.instanceMethod yX11_count ∈ lwG := lwG_of (mt_5 (List.mem_of_getElem? (i := 73) (by decide +kernel))) rfl
theorem w_5_74 : Cond.selects RX11 yX11_count yX11_count ∈ lwG := lwG_of (mt_5 (List.mem_of_getElem? (i := 74) (by decide +kernel))) rfl
theorem gzL_195 : GoodIn lwG (wsV RL 195 RX11 yX11_count wzX11_count) := goodGL (by
  show ∀ w ∈ (_ :: _), w ∈ lwG
  exact List.forall_mem_cons.mpr ⟨w_5_72, List.forall_mem_cons.mpr ⟨w_5_73, List.forall_mem_cons.mpr ⟨w_5_74, List.forall_mem_cons.mpr ⟨w_1_1, azX11_count⟩⟩⟩⟩)
theorem w_7_82 : Cond.methodLink RL 198 yX12_count ∈ lwG := lwG_of (mt_7 (List.mem_of_getElem? (i := 82) (by decide +kernel))) rfl
theorem w_7_83 : Cond.instanceMethod yX12_count ∈ lwG := lwG_of (mt_7 (List.mem_of_getElem? (i := 83) (by decide +kernel))) rfl
theorem w_7_84 : Cond.selects RX12 yX12_count yX12_count ∈ lwG := lwG_of (mt_7 (List.mem_of_getElem? (i := 84) (by decide +kernel))) rfl
theorem gzL_198 : GoodIn lwG (wsV RL 198 RX12 yX12_count wzX12_count) := goodGL (by
  show ∀ w ∈ (_ :: _), w ∈ lwG
  exact List.forall_mem_cons.mpr ⟨w_7_82, List.forall_mem_cons.mpr ⟨w_7_83, List.forall_mem_cons.mpr ⟨w_7_84, List.forall_mem_cons.mpr ⟨w_1_14, azX12_count⟩⟩⟩⟩)
theorem w_5_80 : Cond.methodLink RL 199 yX11_digest ∈ lwG := lwG_of (mt_5 (List.mem_of_getElem? (i := 80) (by decide +kernel))) rfl
theorem w_5_81 : Cond.instanceMethod yX11_digest ∈ lwG := lwG_of (mt_5 (List.mem_of_getElem? (i := 81) (by decide +kernel))) rfl
theorem w_5_82 : Cond.selects RX11 yX11_digest yX11_digest ∈ lwG := lwG_of (mt_5 (List.mem_of_getElem? (i := 82) (by decide +kernel))) rfl
theorem gzL_199 : GoodIn lwG (wsV RL 199 RX11 yX11_digest wzX11_digest) := goodGL (by
  show ∀ w ∈ (_ :: _), w ∈ lwG
  exact List.forall_mem_cons.mpr ⟨w_5_80, List.forall_mem_cons.mpr ⟨w_5_81, List.forall_mem_cons.mpr ⟨w_5_82, List.forall_mem_cons.mpr ⟨w_1_1, azX11_digest⟩⟩⟩⟩)
theorem w_7_87 : Cond.methodLink RL 203 yX12_digest ∈ lwG := lwG_of (mt_7 (List.mem_of_getElem? (i := 87) (by decide +kernel))) rfl
theorem w_7_88 : Cond.instanceMethod yX12_digest ∈ lwG := lwG_of (mt_7 (List.mem_of_getElem? (i := 88) (by decide +kernel))) rfl
theorem w_7_89 : Cond.selects RX12 yX12_digest yX12_digest ∈ lwG := lwG_of (mt_7 (List.mem_of_getElem? (i := 89) (by decide +kernel))) rfl
theorem gzL_203 : GoodIn lwG (wsV RL 203 RX12 yX12_digest wzX12_digest) := goodGL (by
  show ∀ w ∈ (_ :: _), w ∈ lwG
  exact List.forall_mem_cons.mpr ⟨w_7_87, List.forall_mem_cons.mpr ⟨w_7_88, List.forall_mem_cons.mpr ⟨w_7_89, List.forall_mem_cons.mpr ⟨w_1_14, azX12_digest⟩⟩⟩⟩)
theorem w_1_66 : Cond.methodLink RX0 63 yX8_add ∈ lwG := lwG_of (mt_1 (List.mem_of_getElem? (i := 66) (by decide +kernel))) rfl
theorem w_1_67 : Cond.instanceMethod yX8_add ∈ lwG := lwG_of (mt_1 (List.mem_of_getElem? (i := 67) (by decide +kernel))) rfl
theorem w_1_68 : Cond.selects RX8 yX8_add yX8_add ∈ lwG := lwG_of (mt_1 (List.mem_of_getElem? (i := 68) (by decide +kernel))) rfl
theorem w_1_3 : Cond.initialized RX8 ∈ lwG := lwG_of (mt_1 (List.mem_of_getElem? (i := 3) (by decide +kernel))) rfl
theorem gzX0_63 {a : Cond} : GoodIn (a :: lwG) (wsV RX0 63 RX8 yX8_add wzX8_add) := goodG (by
  show ∀ w ∈ (_ :: _), w ∈ lwG
  exact List.forall_mem_cons.mpr ⟨w_1_66, List.forall_mem_cons.mpr ⟨w_1_67, List.forall_mem_cons.mpr ⟨w_1_68, List.forall_mem_cons.mpr ⟨w_1_3, azX8_add⟩⟩⟩⟩)
theorem w_5_60 : Cond.methodLink RX0 67 yX8_become ∈ lwG := lwG_of (mt_5 (List.mem_of_getElem? (i := 60) (by decide +kernel))) rfl
theorem w_5_61 : Cond.instanceMethod yX8_become ∈ lwG := lwG_of (mt_5 (List.mem_of_getElem? (i := 61) (by decide +kernel))) rfl
theorem w_5_62 : Cond.selects RX8 yX8_become yX8_become ∈ lwG := lwG_of (mt_5 (List.mem_of_getElem? (i := 62) (by decide +kernel))) rfl
theorem gzX0_67 {a : Cond} : GoodIn (a :: lwG) (wsV RX0 67 RX8 yX8_become wzX8_become) := goodG (by
  show ∀ w ∈ (_ :: _), w ∈ lwG
  exact List.forall_mem_cons.mpr ⟨w_5_60, List.forall_mem_cons.mpr ⟨w_5_61, List.forall_mem_cons.mpr ⟨w_5_62, List.forall_mem_cons.mpr ⟨w_1_3, azX8_become⟩⟩⟩⟩)
theorem w_5_90 : Cond.methodLink RX0 74 yX8_mixAll ∈ lwG := lwG_of (mt_5 (List.mem_of_getElem? (i := 90) (by decide +kernel))) rfl
theorem w_5_91 : Cond.instanceMethod yX8_mixAll ∈ lwG := lwG_of (mt_5 (List.mem_of_getElem? (i := 91) (by decide +kernel))) rfl
theorem w_5_92 : Cond.selects RX8 yX8_mixAll yX8_mixAll ∈ lwG := lwG_of (mt_5 (List.mem_of_getElem? (i := 92) (by decide +kernel))) rfl
theorem gzX0_74 {a : Cond} : GoodIn (a :: lwG) (wsV RX0 74 RX8 yX8_mixAll wzX8_mixAll) := goodG (by
  show ∀ w ∈ (_ :: _), w ∈ lwG
  exact List.forall_mem_cons.mpr ⟨w_5_90, List.forall_mem_cons.mpr ⟨w_5_91, List.forall_mem_cons.mpr ⟨w_5_92, List.forall_mem_cons.mpr ⟨w_1_3, azX8_mixAll⟩⟩⟩⟩)
theorem w_5_100 : Cond.methodLink RX0 78 yX8_mixTexts ∈ lwG := lwG_of (mt_5 (List.mem_of_getElem? (i := 100) (by decide +kernel))) rfl
theorem w_5_101 : Cond.instanceMethod yX8_mixTexts ∈ lwG := lwG_of (mt_5 (List.mem_of_getElem? (i := 101) (by decide +kernel))) rfl
theorem w_5_102 : Cond.selects RX8 yX8_mixTexts yX8_mixTexts ∈ lwG := lwG_of (mt_5 (List.mem_of_getElem? (i := 102) (by decide +kernel))) rfl
theorem gzX0_78 {a : Cond} : GoodIn (a :: lwG) (wsV RX0 78 RX8 yX8_mixTexts wzX8_mixTexts) := goodG (by
  show ∀ w ∈ (_ :: _), w ∈ lwG
  exact List.forall_mem_cons.mpr ⟨w_5_100, List.forall_mem_cons.mpr ⟨w_5_101, List.forall_mem_cons.mpr ⟨w_5_102, List.forall_mem_cons.mpr ⟨w_1_3, azX8_mixTexts⟩⟩⟩⟩)
theorem w_3_112 : Cond.methodLink RX0 83 yX8_get ∈ lwG := lwG_of (mt_3 (List.mem_of_getElem? (i := 112) (by decide +kernel))) rfl
theorem w_2_187 : Cond.instanceMethod yX8_get ∈ lwG := lwG_of (mt_2 (List.mem_of_getElem? (i := 187) (by decide +kernel))) rfl
theorem w_2_188 : Cond.selects RX8 yX8_get yX8_get ∈ lwG := lwG_of (mt_2 (List.mem_of_getElem? (i := 188) (by decide +kernel))) rfl
theorem gzX0_83 {a : Cond} : GoodIn (a :: lwG) (wsV RX0 83 RX8 yX8_get wzX8_get) := goodG (by
  show ∀ w ∈ (_ :: _), w ∈ lwG
  exact List.forall_mem_cons.mpr ⟨w_3_112, List.forall_mem_cons.mpr ⟨w_2_187, List.forall_mem_cons.mpr ⟨w_2_188, List.forall_mem_cons.mpr ⟨w_1_3, azX8_get⟩⟩⟩⟩)
theorem w_3_63 : Cond.methodLink RX1 25 yX8_get ∈ lwG := lwG_of (mt_3 (List.mem_of_getElem? (i := 63) (by decide +kernel))) rfl
theorem gzX1_25 {a : Cond} : GoodIn (a :: lwG) (wsV RX1 25 RX8 yX8_get wzX8_get) := goodG (by
  show ∀ w ∈ (_ :: _), w ∈ lwG
  exact List.forall_mem_cons.mpr ⟨w_3_63, List.forall_mem_cons.mpr ⟨w_2_187, List.forall_mem_cons.mpr ⟨w_2_188, List.forall_mem_cons.mpr ⟨w_1_3, azX8_get⟩⟩⟩⟩)
theorem w_3_64 : Cond.methodLink RX1 34 yX8_set ∈ lwG := lwG_of (mt_3 (List.mem_of_getElem? (i := 64) (by decide +kernel))) rfl
theorem w_1_75 : Cond.instanceMethod yX8_set ∈ lwG := lwG_of (mt_1 (List.mem_of_getElem? (i := 75) (by decide +kernel))) rfl
theorem w_1_76 : Cond.selects RX8 yX8_set yX8_set ∈ lwG := lwG_of (mt_1 (List.mem_of_getElem? (i := 76) (by decide +kernel))) rfl
theorem gzX1_34 {a : Cond} : GoodIn (a :: lwG) (wsV RX1 34 RX8 yX8_set wzX8_set) := goodG (by
  show ∀ w ∈ (_ :: _), w ∈ lwG
  exact List.forall_mem_cons.mpr ⟨w_3_64, List.forall_mem_cons.mpr ⟨w_1_75, List.forall_mem_cons.mpr ⟨w_1_76, List.forall_mem_cons.mpr ⟨w_1_3, azX8_set⟩⟩⟩⟩)
theorem w_3_136 : Cond.methodLink RX1 57 yX1_inForce ∈ lwG := lwG_of (mt_3 (List.mem_of_getElem? (i := 136) (by decide +kernel))) rfl
theorem w_3_70 : Cond.instanceMethod yX1_inForce ∈ lwG := lwG_of (mt_3 (List.mem_of_getElem? (i := 70) (by decide +kernel))) rfl
theorem w_3_71 : Cond.selects RX1 yX1_inForce yX1_inForce ∈ lwG := lwG_of (mt_3 (List.mem_of_getElem? (i := 71) (by decide +kernel))) rfl
theorem gzX1_57 {a : Cond} : GoodIn (a :: lwG) (wsV RX1 57 RX1 yX1_inForce wzX1_inForce) := goodG (by
  show ∀ w ∈ (_ :: _), w ∈ lwG
  exact List.forall_mem_cons.mpr ⟨w_3_136, List.forall_mem_cons.mpr ⟨w_3_70, List.forall_mem_cons.mpr ⟨w_3_71, List.forall_mem_cons.mpr ⟨w_1_6, azX1_inForce⟩⟩⟩⟩)
theorem w_3_137 : Cond.methodLink RX1 60 yX1_meet ∈ lwG := lwG_of (mt_3 (List.mem_of_getElem? (i := 137) (by decide +kernel))) rfl
theorem w_3_33 : Cond.instanceMethod yX1_meet ∈ lwG := lwG_of (mt_3 (List.mem_of_getElem? (i := 33) (by decide +kernel))) rfl
theorem w_3_34 : Cond.selects RX1 yX1_meet yX1_meet ∈ lwG := lwG_of (mt_3 (List.mem_of_getElem? (i := 34) (by decide +kernel))) rfl
theorem gzX1_60 {a : Cond} : GoodIn (a :: lwG) (wsV RX1 60 RX1 yX1_meet wzX1_meet) := goodG (by
  show ∀ w ∈ (_ :: _), w ∈ lwG
  exact List.forall_mem_cons.mpr ⟨w_3_137, List.forall_mem_cons.mpr ⟨w_3_33, List.forall_mem_cons.mpr ⟨w_3_34, List.forall_mem_cons.mpr ⟨w_1_6, azX1_meet⟩⟩⟩⟩)
theorem w_3_138 : Cond.methodLink RX1 64 yX8_placeOf ∈ lwG := lwG_of (mt_3 (List.mem_of_getElem? (i := 138) (by decide +kernel))) rfl
theorem w_1_79 : Cond.instanceMethod yX8_placeOf ∈ lwG := lwG_of (mt_1 (List.mem_of_getElem? (i := 79) (by decide +kernel))) rfl
theorem w_1_80 : Cond.selects RX8 yX8_placeOf yX8_placeOf ∈ lwG := lwG_of (mt_1 (List.mem_of_getElem? (i := 80) (by decide +kernel))) rfl
theorem gzX1_64 {a : Cond} : GoodIn (a :: lwG) (wsV RX1 64 RX8 yX8_placeOf wzX8_placeOf) := goodG (by
  show ∀ w ∈ (_ :: _), w ∈ lwG
  exact List.forall_mem_cons.mpr ⟨w_3_138, List.forall_mem_cons.mpr ⟨w_1_79, List.forall_mem_cons.mpr ⟨w_1_80, List.forall_mem_cons.mpr ⟨w_1_3, azX8_placeOf⟩⟩⟩⟩)
theorem w_3_139 : Cond.methodLink RX1 70 yX1_run ∈ lwG := lwG_of (mt_3 (List.mem_of_getElem? (i := 139) (by decide +kernel))) rfl
theorem w_3_37 : Cond.instanceMethod yX1_run ∈ lwG := lwG_of (mt_3 (List.mem_of_getElem? (i := 37) (by decide +kernel))) rfl
theorem w_3_38 : Cond.selects RX1 yX1_run yX1_run ∈ lwG := lwG_of (mt_3 (List.mem_of_getElem? (i := 38) (by decide +kernel))) rfl
theorem gzX1_70 {a : Cond} : GoodIn (a :: lwG) (wsV RX1 70 RX1 yX1_run wzX1_run) := goodG (by
  show ∀ w ∈ (_ :: _), w ∈ lwG
  exact List.forall_mem_cons.mpr ⟨w_3_139, List.forall_mem_cons.mpr ⟨w_3_37, List.forall_mem_cons.mpr ⟨w_3_38, List.forall_mem_cons.mpr ⟨w_1_6, azX1_run⟩⟩⟩⟩)
theorem w_3_40 : Cond.methodLink RX1 102 yX1_work ∈ lwG := lwG_of (mt_3 (List.mem_of_getElem? (i := 40) (by decide +kernel))) rfl
theorem w_3_42 : Cond.instanceMethod yX1_work ∈ lwG := lwG_of (mt_3 (List.mem_of_getElem? (i := 42) (by decide +kernel))) rfl
theorem w_0_14 : Cond.selects RX1 yX1_work yX1_work ∈ lwG := lwG_of (mt_0 (List.mem_of_getElem? (i := 14) (by decide +kernel))) rfl
theorem gzX1_102 {a : Cond} : GoodIn (a :: lwG) (wsV RX1 102 RX1 yX1_work wzX1_work) := goodG (by
  show ∀ w ∈ (_ :: _), w ∈ lwG
  exact List.forall_mem_cons.mpr ⟨w_3_40, List.forall_mem_cons.mpr ⟨w_3_42, List.forall_mem_cons.mpr ⟨w_0_14, List.forall_mem_cons.mpr ⟨w_1_6, azX1_work⟩⟩⟩⟩)
theorem w_3_48 : Cond.methodLink RX1 106 yX1_pop ∈ lwG := lwG_of (mt_3 (List.mem_of_getElem? (i := 48) (by decide +kernel))) rfl
theorem w_3_50 : Cond.instanceMethod yX1_pop ∈ lwG := lwG_of (mt_3 (List.mem_of_getElem? (i := 50) (by decide +kernel))) rfl
theorem w_0_16 : Cond.selects RX1 yX1_pop yX1_pop ∈ lwG := lwG_of (mt_0 (List.mem_of_getElem? (i := 16) (by decide +kernel))) rfl
theorem gzX1_106 {a : Cond} : GoodIn (a :: lwG) (wsV RX1 106 RX1 yX1_pop wzX1_pop) := goodG (by
  show ∀ w ∈ (_ :: _), w ∈ lwG
  exact List.forall_mem_cons.mpr ⟨w_3_48, List.forall_mem_cons.mpr ⟨w_3_50, List.forall_mem_cons.mpr ⟨w_0_16, List.forall_mem_cons.mpr ⟨w_1_6, azX1_pop⟩⟩⟩⟩)
theorem w_3_44 : Cond.methodLink RX1 110 yX1_push ∈ lwG := lwG_of (mt_3 (List.mem_of_getElem? (i := 44) (by decide +kernel))) rfl
theorem w_3_46 : Cond.instanceMethod yX1_push ∈ lwG := lwG_of (mt_3 (List.mem_of_getElem? (i := 46) (by decide +kernel))) rfl
theorem w_0_15 : Cond.selects RX1 yX1_push yX1_push ∈ lwG := lwG_of (mt_0 (List.mem_of_getElem? (i := 15) (by decide +kernel))) rfl
theorem gzX1_110 {a : Cond} : GoodIn (a :: lwG) (wsV RX1 110 RX1 yX1_push wzX1_push) := goodG (by
  show ∀ w ∈ (_ :: _), w ∈ lwG
  exact List.forall_mem_cons.mpr ⟨w_3_44, List.forall_mem_cons.mpr ⟨w_3_46, List.forall_mem_cons.mpr ⟨w_0_15, List.forall_mem_cons.mpr ⟨w_1_6, azX1_push⟩⟩⟩⟩)
theorem w_4_122 : Cond.methodLink RX10 43 yX8_get ∈ lwG := lwG_of (mt_4 (List.mem_of_getElem? (i := 122) (by decide +kernel))) rfl
theorem gzX10_43 {a : Cond} : GoodIn (a :: lwG) (wsV RX10 43 RX8 yX8_get wzX8_get) := goodG (by
  show ∀ w ∈ (_ :: _), w ∈ lwG
  exact List.forall_mem_cons.mpr ⟨w_4_122, List.forall_mem_cons.mpr ⟨w_2_187, List.forall_mem_cons.mpr ⟨w_2_188, List.forall_mem_cons.mpr ⟨w_1_3, azX8_get⟩⟩⟩⟩)
theorem w_4_128 : Cond.methodLink RX10 55 yX10_isNext ∈ lwG := lwG_of (mt_4 (List.mem_of_getElem? (i := 128) (by decide +kernel))) rfl
theorem w_4_130 : Cond.instanceMethod yX10_isNext ∈ lwG := lwG_of (mt_4 (List.mem_of_getElem? (i := 130) (by decide +kernel))) rfl
theorem w_0_35 : Cond.selects RX10 yX10_isNext yX10_isNext ∈ lwG := lwG_of (mt_0 (List.mem_of_getElem? (i := 35) (by decide +kernel))) rfl
theorem w_1_10 : Cond.initialized RX10 ∈ lwG := lwG_of (mt_1 (List.mem_of_getElem? (i := 10) (by decide +kernel))) rfl
theorem gzX10_55 {a : Cond} : GoodIn (a :: lwG) (wsV RX10 55 RX10 yX10_isNext wzX10_isNext) := goodG (by
  show ∀ w ∈ (_ :: _), w ∈ lwG
  exact List.forall_mem_cons.mpr ⟨w_4_128, List.forall_mem_cons.mpr ⟨w_4_130, List.forall_mem_cons.mpr ⟨w_0_35, List.forall_mem_cons.mpr ⟨w_1_10, azX10_isNext⟩⟩⟩⟩)
theorem w_4_140 : Cond.methodLink RX10 59 yX10_firstNext ∈ lwG := lwG_of (mt_4 (List.mem_of_getElem? (i := 140) (by decide +kernel))) rfl
theorem w_4_142 : Cond.instanceMethod yX10_firstNext ∈ lwG := lwG_of (mt_4 (List.mem_of_getElem? (i := 142) (by decide +kernel))) rfl
theorem w_0_36 : Cond.selects RX10 yX10_firstNext yX10_firstNext ∈ lwG := lwG_of (mt_0 (List.mem_of_getElem? (i := 36) (by decide +kernel))) rfl
theorem gzX10_59 {a : Cond} : GoodIn (a :: lwG) (wsV RX10 59 RX10 yX10_firstNext wzX10_firstNext) := goodG (by
  show ∀ w ∈ (_ :: _), w ∈ lwG
  exact List.forall_mem_cons.mpr ⟨w_4_140, List.forall_mem_cons.mpr ⟨w_4_142, List.forall_mem_cons.mpr ⟨w_0_36, List.forall_mem_cons.mpr ⟨w_1_10, azX10_firstNext⟩⟩⟩⟩)
theorem w_2_180 : Cond.methodLink RX11 106 yX8_isFull ∈ lwG := lwG_of (mt_2 (List.mem_of_getElem? (i := 180) (by decide +kernel))) rfl
theorem w_1_71 : Cond.instanceMethod yX8_isFull ∈ lwG := lwG_of (mt_1 (List.mem_of_getElem? (i := 71) (by decide +kernel))) rfl
theorem w_1_72 : Cond.selects RX8 yX8_isFull yX8_isFull ∈ lwG := lwG_of (mt_1 (List.mem_of_getElem? (i := 72) (by decide +kernel))) rfl
theorem gzX11_106 {a : Cond} : GoodIn (a :: lwG) (wsV RX11 106 RX8 yX8_isFull wzX8_isFull) := goodG (by
  show ∀ w ∈ (_ :: _), w ∈ lwG
  exact List.forall_mem_cons.mpr ⟨w_2_180, List.forall_mem_cons.mpr ⟨w_1_71, List.forall_mem_cons.mpr ⟨w_1_72, List.forall_mem_cons.mpr ⟨w_1_3, azX8_isFull⟩⟩⟩⟩)
theorem w_2_181 : Cond.methodLink RX11 112 yX8_add ∈ lwG := lwG_of (mt_2 (List.mem_of_getElem? (i := 181) (by decide +kernel))) rfl
theorem gzX11_112 {a : Cond} : GoodIn (a :: lwG) (wsV RX11 112 RX8 yX8_add wzX8_add) := goodG (by
  show ∀ w ∈ (_ :: _), w ∈ lwG
  exact List.forall_mem_cons.mpr ⟨w_2_181, List.forall_mem_cons.mpr ⟨w_1_67, List.forall_mem_cons.mpr ⟨w_1_68, List.forall_mem_cons.mpr ⟨w_1_3, azX8_add⟩⟩⟩⟩)
theorem w_2_186 : Cond.methodLink RX11 119 yX8_get ∈ lwG := lwG_of (mt_2 (List.mem_of_getElem? (i := 186) (by decide +kernel))) rfl
theorem gzX11_119 {a : Cond} : GoodIn (a :: lwG) (wsV RX11 119 RX8 yX8_get wzX8_get) := goodG (by
  show ∀ w ∈ (_ :: _), w ∈ lwG
  exact List.forall_mem_cons.mpr ⟨w_2_186, List.forall_mem_cons.mpr ⟨w_2_187, List.forall_mem_cons.mpr ⟨w_2_188, List.forall_mem_cons.mpr ⟨w_1_3, azX8_get⟩⟩⟩⟩)
theorem w_2_190 : Cond.methodLink RX11 123 yX8_set ∈ lwG := lwG_of (mt_2 (List.mem_of_getElem? (i := 190) (by decide +kernel))) rfl
theorem gzX11_123 {a : Cond} : GoodIn (a :: lwG) (wsV RX11 123 RX8 yX8_set wzX8_set) := goodG (by
  show ∀ w ∈ (_ :: _), w ∈ lwG
  exact List.forall_mem_cons.mpr ⟨w_2_190, List.forall_mem_cons.mpr ⟨w_1_75, List.forall_mem_cons.mpr ⟨w_1_76, List.forall_mem_cons.mpr ⟨w_1_3, azX8_set⟩⟩⟩⟩)
theorem w_2_199 : Cond.methodLink RX11 127 yX7_read ∈ lwG := lwG_of (mt_2 (List.mem_of_getElem? (i := 199) (by decide +kernel))) rfl
theorem w_2_200 : Cond.instanceMethod yX7_read ∈ lwG := lwG_of (mt_2 (List.mem_of_getElem? (i := 200) (by decide +kernel))) rfl
theorem w_2_201 : Cond.selects RX7 yX7_read yX7_read ∈ lwG := lwG_of (mt_2 (List.mem_of_getElem? (i := 201) (by decide +kernel))) rfl
theorem gzX11_127 {a : Cond} : GoodIn (a :: lwG) (wsV RX11 127 RX7 yX7_read wzX7_read) := goodG (by
  show ∀ w ∈ (_ :: _), w ∈ lwG
  exact List.forall_mem_cons.mpr ⟨w_2_199, List.forall_mem_cons.mpr ⟨w_2_200, List.forall_mem_cons.mpr ⟨w_2_201, List.forall_mem_cons.mpr ⟨w_1_5, azX7_read⟩⟩⟩⟩)
theorem w_3_32 : Cond.methodLink RX11 139 yX1_meet ∈ lwG := lwG_of (mt_3 (List.mem_of_getElem? (i := 32) (by decide +kernel))) rfl
theorem gzX11_139 {a : Cond} : GoodIn (a :: lwG) (wsV RX11 139 RX1 yX1_meet wzX1_meet) := goodG (by
  show ∀ w ∈ (_ :: _), w ∈ lwG
  exact List.forall_mem_cons.mpr ⟨w_3_32, List.forall_mem_cons.mpr ⟨w_3_33, List.forall_mem_cons.mpr ⟨w_3_34, List.forall_mem_cons.mpr ⟨w_1_6, azX1_meet⟩⟩⟩⟩)
theorem w_3_36 : Cond.methodLink RX11 151 yX1_run ∈ lwG := lwG_of (mt_3 (List.mem_of_getElem? (i := 36) (by decide +kernel))) rfl
theorem gzX11_151 {a : Cond} : GoodIn (a :: lwG) (wsV RX11 151 RX1 yX1_run wzX1_run) := goodG (by
  show ∀ w ∈ (_ :: _), w ∈ lwG
  exact List.forall_mem_cons.mpr ⟨w_3_36, List.forall_mem_cons.mpr ⟨w_3_37, List.forall_mem_cons.mpr ⟨w_3_38, List.forall_mem_cons.mpr ⟨w_1_6, azX1_run⟩⟩⟩⟩)
theorem w_3_59 : Cond.methodLink RX11 158 yX1_inscribe ∈ lwG := lwG_of (mt_3 (List.mem_of_getElem? (i := 59) (by decide +kernel))) rfl
theorem w_3_60 : Cond.instanceMethod yX1_inscribe ∈ lwG := lwG_of (mt_3 (List.mem_of_getElem? (i := 60) (by decide +kernel))) rfl
theorem w_3_61 : Cond.selects RX1 yX1_inscribe yX1_inscribe ∈ lwG := lwG_of (mt_3 (List.mem_of_getElem? (i := 61) (by decide +kernel))) rfl
theorem gzX11_158 {a : Cond} : GoodIn (a :: lwG) (wsV RX11 158 RX1 yX1_inscribe wzX1_inscribe) := goodG (by
  show ∀ w ∈ (_ :: _), w ∈ lwG
  exact List.forall_mem_cons.mpr ⟨w_3_59, List.forall_mem_cons.mpr ⟨w_3_60, List.forall_mem_cons.mpr ⟨w_3_61, List.forall_mem_cons.mpr ⟨w_1_6, azX1_inscribe⟩⟩⟩⟩)
theorem w_3_69 : Cond.methodLink RX11 162 yX1_inForce ∈ lwG := lwG_of (mt_3 (List.mem_of_getElem? (i := 69) (by decide +kernel))) rfl
theorem gzX11_162 {a : Cond} : GoodIn (a :: lwG) (wsV RX11 162 RX1 yX1_inForce wzX1_inForce) := goodG (by
  show ∀ w ∈ (_ :: _), w ∈ lwG
  exact List.forall_mem_cons.mpr ⟨w_3_69, List.forall_mem_cons.mpr ⟨w_3_70, List.forall_mem_cons.mpr ⟨w_3_71, List.forall_mem_cons.mpr ⟨w_1_6, azX1_inForce⟩⟩⟩⟩)
theorem w_3_77 : Cond.methodLink RX11 165 yX11_isNoMerchant ∈ lwG := lwG_of (mt_3 (List.mem_of_getElem? (i := 77) (by decide +kernel))) rfl
theorem w_3_79 : Cond.instanceMethod yX11_isNoMerchant ∈ lwG := lwG_of (mt_3 (List.mem_of_getElem? (i := 79) (by decide +kernel))) rfl
theorem w_0_17 : Cond.selects RX11 yX11_isNoMerchant yX11_isNoMerchant ∈ lwG := lwG_of (mt_0 (List.mem_of_getElem? (i := 17) (by decide +kernel))) rfl
theorem gzX11_165 {a : Cond} : GoodIn (a :: lwG) (wsV RX11 165 RX11 yX11_isNoMerchant wzX11_isNoMerchant) := goodG (by
  show ∀ w ∈ (_ :: _), w ∈ lwG
  exact List.forall_mem_cons.mpr ⟨w_3_77, List.forall_mem_cons.mpr ⟨w_3_79, List.forall_mem_cons.mpr ⟨w_0_17, List.forall_mem_cons.mpr ⟨w_1_1, azX11_isNoMerchant⟩⟩⟩⟩)
theorem w_3_86 : Cond.methodLink RX11 172 yX11_isNoDebt ∈ lwG := lwG_of (mt_3 (List.mem_of_getElem? (i := 86) (by decide +kernel))) rfl
theorem w_3_88 : Cond.instanceMethod yX11_isNoDebt ∈ lwG := lwG_of (mt_3 (List.mem_of_getElem? (i := 88) (by decide +kernel))) rfl
theorem w_0_18 : Cond.selects RX11 yX11_isNoDebt yX11_isNoDebt ∈ lwG := lwG_of (mt_0 (List.mem_of_getElem? (i := 18) (by decide +kernel))) rfl
theorem gzX11_172 {a : Cond} : GoodIn (a :: lwG) (wsV RX11 172 RX11 yX11_isNoDebt wzX11_isNoDebt) := goodG (by
  show ∀ w ∈ (_ :: _), w ∈ lwG
  exact List.forall_mem_cons.mpr ⟨w_3_86, List.forall_mem_cons.mpr ⟨w_3_88, List.forall_mem_cons.mpr ⟨w_0_18, List.forall_mem_cons.mpr ⟨w_1_1, azX11_isNoDebt⟩⟩⟩⟩)
theorem w_3_103 : Cond.methodLink RX11 180 yX2_left ∈ lwG := lwG_of (mt_3 (List.mem_of_getElem? (i := 103) (by decide +kernel))) rfl
theorem w_3_104 : Cond.instanceMethod yX2_left ∈ lwG := lwG_of (mt_3 (List.mem_of_getElem? (i := 104) (by decide +kernel))) rfl
theorem w_3_105 : Cond.selects RX2 yX2_left yX2_left ∈ lwG := lwG_of (mt_3 (List.mem_of_getElem? (i := 105) (by decide +kernel))) rfl
theorem w_1_7 : Cond.initialized RX2 ∈ lwG := lwG_of (mt_1 (List.mem_of_getElem? (i := 7) (by decide +kernel))) rfl
theorem gzX11_180 {a : Cond} : GoodIn (a :: lwG) (wsV RX11 180 RX2 yX2_left wzX2_left) := goodG (by
  show ∀ w ∈ (_ :: _), w ∈ lwG
  exact List.forall_mem_cons.mpr ⟨w_3_103, List.forall_mem_cons.mpr ⟨w_3_104, List.forall_mem_cons.mpr ⟨w_3_105, List.forall_mem_cons.mpr ⟨w_1_7, azX2_left⟩⟩⟩⟩)
theorem w_3_154 : Cond.methodLink RX11 187 yX11_isNoPurse ∈ lwG := lwG_of (mt_3 (List.mem_of_getElem? (i := 154) (by decide +kernel))) rfl
theorem w_3_156 : Cond.instanceMethod yX11_isNoPurse ∈ lwG := lwG_of (mt_3 (List.mem_of_getElem? (i := 156) (by decide +kernel))) rfl
theorem w_0_21 : Cond.selects RX11 yX11_isNoPurse yX11_isNoPurse ∈ lwG := lwG_of (mt_0 (List.mem_of_getElem? (i := 21) (by decide +kernel))) rfl
theorem gzX11_187 {a : Cond} : GoodIn (a :: lwG) (wsV RX11 187 RX11 yX11_isNoPurse wzX11_isNoPurse) := goodG (by
  show ∀ w ∈ (_ :: _), w ∈ lwG
  exact List.forall_mem_cons.mpr ⟨w_3_154, List.forall_mem_cons.mpr ⟨w_3_156, List.forall_mem_cons.mpr ⟨w_0_21, List.forall_mem_cons.mpr ⟨w_1_1, azX11_isNoPurse⟩⟩⟩⟩)
theorem w_3_158 : Cond.methodLink RX11 190 yX2_sharesOfAll ∈ lwG := lwG_of (mt_3 (List.mem_of_getElem? (i := 158) (by decide +kernel))) rfl
theorem w_3_159 : Cond.instanceMethod yX2_sharesOfAll ∈ lwG := lwG_of (mt_3 (List.mem_of_getElem? (i := 159) (by decide +kernel))) rfl
theorem w_3_160 : Cond.selects RX2 yX2_sharesOfAll yX2_sharesOfAll ∈ lwG := lwG_of (mt_3 (List.mem_of_getElem? (i := 160) (by decide +kernel))) rfl
theorem gzX11_190 {a : Cond} : GoodIn (a :: lwG) (wsV RX11 190 RX2 yX2_sharesOfAll wzX2_sharesOfAll) := goodG (by
  show ∀ w ∈ (_ :: _), w ∈ lwG
  exact List.forall_mem_cons.mpr ⟨w_3_158, List.forall_mem_cons.mpr ⟨w_3_159, List.forall_mem_cons.mpr ⟨w_3_160, List.forall_mem_cons.mpr ⟨w_1_7, azX2_sharesOfAll⟩⟩⟩⟩)
theorem w_3_166 : Cond.methodLink RX11 194 yX2_takenBy ∈ lwG := lwG_of (mt_3 (List.mem_of_getElem? (i := 166) (by decide +kernel))) rfl
theorem w_3_167 : Cond.instanceMethod yX2_takenBy ∈ lwG := lwG_of (mt_3 (List.mem_of_getElem? (i := 167) (by decide +kernel))) rfl
theorem w_3_168 : Cond.selects RX2 yX2_takenBy yX2_takenBy ∈ lwG := lwG_of (mt_3 (List.mem_of_getElem? (i := 168) (by decide +kernel))) rfl
theorem gzX11_194 {a : Cond} : GoodIn (a :: lwG) (wsV RX11 194 RX2 yX2_takenBy wzX2_takenBy) := goodG (by
  show ∀ w ∈ (_ :: _), w ∈ lwG
  exact List.forall_mem_cons.mpr ⟨w_3_166, List.forall_mem_cons.mpr ⟨w_3_167, List.forall_mem_cons.mpr ⟨w_3_168, List.forall_mem_cons.mpr ⟨w_1_7, azX2_takenBy⟩⟩⟩⟩)
theorem w_3_176 : Cond.methodLink RX11 199 yX2_partOf ∈ lwG := lwG_of (mt_3 (List.mem_of_getElem? (i := 176) (by decide +kernel))) rfl
theorem w_3_177 : Cond.instanceMethod yX2_partOf ∈ lwG := lwG_of (mt_3 (List.mem_of_getElem? (i := 177) (by decide +kernel))) rfl
theorem w_3_178 : Cond.selects RX2 yX2_partOf yX2_partOf ∈ lwG := lwG_of (mt_3 (List.mem_of_getElem? (i := 178) (by decide +kernel))) rfl
theorem gzX11_199 {a : Cond} : GoodIn (a :: lwG) (wsV RX11 199 RX2 yX2_partOf wzX2_partOf) := goodG (by
  show ∀ w ∈ (_ :: _), w ∈ lwG
  exact List.forall_mem_cons.mpr ⟨w_3_176, List.forall_mem_cons.mpr ⟨w_3_177, List.forall_mem_cons.mpr ⟨w_3_178, List.forall_mem_cons.mpr ⟨w_1_7, azX2_partOf⟩⟩⟩⟩)
theorem w_3_193 : Cond.methodLink RX11 205 yX11_isNoLoad ∈ lwG := lwG_of (mt_3 (List.mem_of_getElem? (i := 193) (by decide +kernel))) rfl
theorem w_3_195 : Cond.instanceMethod yX11_isNoLoad ∈ lwG := lwG_of (mt_3 (List.mem_of_getElem? (i := 195) (by decide +kernel))) rfl
theorem w_0_23 : Cond.selects RX11 yX11_isNoLoad yX11_isNoLoad ∈ lwG := lwG_of (mt_0 (List.mem_of_getElem? (i := 23) (by decide +kernel))) rfl
theorem gzX11_205 {a : Cond} : GoodIn (a :: lwG) (wsV RX11 205 RX11 yX11_isNoLoad wzX11_isNoLoad) := goodG (by
  show ∀ w ∈ (_ :: _), w ∈ lwG
  exact List.forall_mem_cons.mpr ⟨w_3_193, List.forall_mem_cons.mpr ⟨w_3_195, List.forall_mem_cons.mpr ⟨w_0_23, List.forall_mem_cons.mpr ⟨w_1_1, azX11_isNoLoad⟩⟩⟩⟩)
theorem w_3_197 : Cond.methodLink RX11 209 yX9_leftByGates ∈ lwG := lwG_of (mt_3 (List.mem_of_getElem? (i := 197) (by decide +kernel))) rfl
theorem w_3_198 : Cond.instanceMethod yX9_leftByGates ∈ lwG := lwG_of (mt_3 (List.mem_of_getElem? (i := 198) (by decide +kernel))) rfl
theorem w_3_199 : Cond.selects RX9 yX9_leftByGates yX9_leftByGates ∈ lwG := lwG_of (mt_3 (List.mem_of_getElem? (i := 199) (by decide +kernel))) rfl
theorem w_1_9 : Cond.initialized RX9 ∈ lwG := lwG_of (mt_1 (List.mem_of_getElem? (i := 9) (by decide +kernel))) rfl
theorem gzX11_209 {a : Cond} : GoodIn (a :: lwG) (wsV RX11 209 RX9 yX9_leftByGates wzX9_leftByGates) := goodG (by
  show ∀ w ∈ (_ :: _), w ∈ lwG
  exact List.forall_mem_cons.mpr ⟨w_3_197, List.forall_mem_cons.mpr ⟨w_3_198, List.forall_mem_cons.mpr ⟨w_3_199, List.forall_mem_cons.mpr ⟨w_1_9, azX9_leftByGates⟩⟩⟩⟩)
theorem w_3_212 : Cond.methodLink RX11 215 yX11_setFraction ∈ lwG := lwG_of (mt_3 (List.mem_of_getElem? (i := 212) (by decide +kernel))) rfl
theorem w_3_214 : Cond.instanceMethod yX11_setFraction ∈ lwG := lwG_of (mt_3 (List.mem_of_getElem? (i := 214) (by decide +kernel))) rfl
theorem w_0_24 : Cond.selects RX11 yX11_setFraction yX11_setFraction ∈ lwG := lwG_of (mt_0 (List.mem_of_getElem? (i := 24) (by decide +kernel))) rfl
theorem gzX11_215 {a : Cond} : GoodIn (a :: lwG) (wsV RX11 215 RX11 yX11_setFraction wzX11_setFraction) := goodG (by
  show ∀ w ∈ (_ :: _), w ∈ lwG
  exact List.forall_mem_cons.mpr ⟨w_3_212, List.forall_mem_cons.mpr ⟨w_3_214, List.forall_mem_cons.mpr ⟨w_0_24, List.forall_mem_cons.mpr ⟨w_1_1, azX11_setFraction⟩⟩⟩⟩)
theorem w_3_231 : Cond.methodLink RX11 222 yX9_stonesMeet ∈ lwG := lwG_of (mt_3 (List.mem_of_getElem? (i := 231) (by decide +kernel))) rfl
theorem w_3_232 : Cond.instanceMethod yX9_stonesMeet ∈ lwG := lwG_of (mt_3 (List.mem_of_getElem? (i := 232) (by decide +kernel))) rfl
theorem w_3_233 : Cond.selects RX9 yX9_stonesMeet yX9_stonesMeet ∈ lwG := lwG_of (mt_3 (List.mem_of_getElem? (i := 233) (by decide +kernel))) rfl
theorem gzX11_222 {a : Cond} : GoodIn (a :: lwG) (wsV RX11 222 RX9 yX9_stonesMeet wzX9_stonesMeet) := goodG (by
  show ∀ w ∈ (_ :: _), w ∈ lwG
  exact List.forall_mem_cons.mpr ⟨w_3_231, List.forall_mem_cons.mpr ⟨w_3_232, List.forall_mem_cons.mpr ⟨w_3_233, List.forall_mem_cons.mpr ⟨w_1_9, azX9_stonesMeet⟩⟩⟩⟩)
theorem w_4_15 : Cond.methodLink RX11 225 yX9_highestLower ∈ lwG := lwG_of (mt_4 (List.mem_of_getElem? (i := 15) (by decide +kernel))) rfl
theorem w_3_236 : Cond.instanceMethod yX9_highestLower ∈ lwG := lwG_of (mt_3 (List.mem_of_getElem? (i := 236) (by decide +kernel))) rfl
theorem w_3_237 : Cond.selects RX9 yX9_highestLower yX9_highestLower ∈ lwG := lwG_of (mt_3 (List.mem_of_getElem? (i := 237) (by decide +kernel))) rfl
theorem gzX11_225 {a : Cond} : GoodIn (a :: lwG) (wsV RX11 225 RX9 yX9_highestLower wzX9_highestLower) := goodG (by
  show ∀ w ∈ (_ :: _), w ∈ lwG
  exact List.forall_mem_cons.mpr ⟨w_4_15, List.forall_mem_cons.mpr ⟨w_3_236, List.forall_mem_cons.mpr ⟨w_3_237, List.forall_mem_cons.mpr ⟨w_1_9, azX9_highestLower⟩⟩⟩⟩)
theorem w_4_16 : Cond.methodLink RX11 229 yX9_lowestUpper ∈ lwG := lwG_of (mt_4 (List.mem_of_getElem? (i := 16) (by decide +kernel))) rfl
theorem w_4_8 : Cond.instanceMethod yX9_lowestUpper ∈ lwG := lwG_of (mt_4 (List.mem_of_getElem? (i := 8) (by decide +kernel))) rfl
theorem w_4_9 : Cond.selects RX9 yX9_lowestUpper yX9_lowestUpper ∈ lwG := lwG_of (mt_4 (List.mem_of_getElem? (i := 9) (by decide +kernel))) rfl
theorem gzX11_229 {a : Cond} : GoodIn (a :: lwG) (wsV RX11 229 RX9 yX9_lowestUpper wzX9_lowestUpper) := goodG (by
  show ∀ w ∈ (_ :: _), w ∈ lwG
  exact List.forall_mem_cons.mpr ⟨w_4_16, List.forall_mem_cons.mpr ⟨w_4_8, List.forall_mem_cons.mpr ⟨w_4_9, List.forall_mem_cons.mpr ⟨w_1_9, azX9_lowestUpper⟩⟩⟩⟩)
theorem w_4_17 : Cond.methodLink RX11 232 yX9_lowerOf ∈ lwG := lwG_of (mt_4 (List.mem_of_getElem? (i := 17) (by decide +kernel))) rfl
theorem w_4_0 : Cond.instanceMethod yX9_lowerOf ∈ lwG := lwG_of (mt_4 (List.mem_of_getElem? (i := 0) (by decide +kernel))) rfl
theorem w_4_1 : Cond.selects RX9 yX9_lowerOf yX9_lowerOf ∈ lwG := lwG_of (mt_4 (List.mem_of_getElem? (i := 1) (by decide +kernel))) rfl
theorem gzX11_232 {a : Cond} : GoodIn (a :: lwG) (wsV RX11 232 RX9 yX9_lowerOf wzX9_lowerOf) := goodG (by
  show ∀ w ∈ (_ :: _), w ∈ lwG
  exact List.forall_mem_cons.mpr ⟨w_4_17, List.forall_mem_cons.mpr ⟨w_4_0, List.forall_mem_cons.mpr ⟨w_4_1, List.forall_mem_cons.mpr ⟨w_1_9, azX9_lowerOf⟩⟩⟩⟩)
theorem w_4_18 : Cond.methodLink RX11 236 yX9_upperOf ∈ lwG := lwG_of (mt_4 (List.mem_of_getElem? (i := 18) (by decide +kernel))) rfl
theorem w_4_12 : Cond.instanceMethod yX9_upperOf ∈ lwG := lwG_of (mt_4 (List.mem_of_getElem? (i := 12) (by decide +kernel))) rfl
theorem w_4_13 : Cond.selects RX9 yX9_upperOf yX9_upperOf ∈ lwG := lwG_of (mt_4 (List.mem_of_getElem? (i := 13) (by decide +kernel))) rfl
theorem gzX11_236 {a : Cond} : GoodIn (a :: lwG) (wsV RX11 236 RX9 yX9_upperOf wzX9_upperOf) := goodG (by
  show ∀ w ∈ (_ :: _), w ∈ lwG
  exact List.forall_mem_cons.mpr ⟨w_4_18, List.forall_mem_cons.mpr ⟨w_4_12, List.forall_mem_cons.mpr ⟨w_4_13, List.forall_mem_cons.mpr ⟨w_1_9, azX9_upperOf⟩⟩⟩⟩)
theorem w_4_24 : Cond.methodLink RX11 241 yX4_weigh ∈ lwG := lwG_of (mt_4 (List.mem_of_getElem? (i := 24) (by decide +kernel))) rfl
theorem w_4_25 : Cond.instanceMethod yX4_weigh ∈ lwG := lwG_of (mt_4 (List.mem_of_getElem? (i := 25) (by decide +kernel))) rfl
theorem w_4_26 : Cond.selects RX4 yX4_weigh yX4_weigh ∈ lwG := lwG_of (mt_4 (List.mem_of_getElem? (i := 26) (by decide +kernel))) rfl
theorem gzX11_241 {a : Cond} : GoodIn (a :: lwG) (wsV RX11 241 RX4 yX4_weigh wzX4_weigh) := goodG (by
  show ∀ w ∈ (_ :: _), w ∈ lwG
  exact List.forall_mem_cons.mpr ⟨w_4_24, List.forall_mem_cons.mpr ⟨w_4_25, List.forall_mem_cons.mpr ⟨w_4_26, List.forall_mem_cons.mpr ⟨w_1_8, azX4_weigh⟩⟩⟩⟩)
theorem w_4_38 : Cond.methodLink RX11 245 yX4_of ∈ lwG := lwG_of (mt_4 (List.mem_of_getElem? (i := 38) (by decide +kernel))) rfl
theorem w_4_39 : Cond.instanceMethod yX4_of ∈ lwG := lwG_of (mt_4 (List.mem_of_getElem? (i := 39) (by decide +kernel))) rfl
theorem w_4_40 : Cond.selects RX4 yX4_of yX4_of ∈ lwG := lwG_of (mt_4 (List.mem_of_getElem? (i := 40) (by decide +kernel))) rfl
theorem gzX11_245 {a : Cond} : GoodIn (a :: lwG) (wsV RX11 245 RX4 yX4_of wzX4_of) := goodG (by
  show ∀ w ∈ (_ :: _), w ∈ lwG
  exact List.forall_mem_cons.mpr ⟨w_4_38, List.forall_mem_cons.mpr ⟨w_4_39, List.forall_mem_cons.mpr ⟨w_4_40, List.forall_mem_cons.mpr ⟨w_1_8, azX4_of⟩⟩⟩⟩)
theorem w_4_46 : Cond.methodLink RX11 248 yX4_fewestPayments ∈ lwG := lwG_of (mt_4 (List.mem_of_getElem? (i := 46) (by decide +kernel))) rfl
theorem w_4_47 : Cond.instanceMethod yX4_fewestPayments ∈ lwG := lwG_of (mt_4 (List.mem_of_getElem? (i := 47) (by decide +kernel))) rfl
theorem w_4_48 : Cond.selects RX4 yX4_fewestPayments yX4_fewestPayments ∈ lwG := lwG_of (mt_4 (List.mem_of_getElem? (i := 48) (by decide +kernel))) rfl
theorem gzX11_248 {a : Cond} : GoodIn (a :: lwG) (wsV RX11 248 RX4 yX4_fewestPayments wzX4_fewestPayments) := goodG (by
  show ∀ w ∈ (_ :: _), w ∈ lwG
  exact List.forall_mem_cons.mpr ⟨w_4_46, List.forall_mem_cons.mpr ⟨w_4_47, List.forall_mem_cons.mpr ⟨w_4_48, List.forall_mem_cons.mpr ⟨w_1_8, azX4_fewestPayments⟩⟩⟩⟩)
theorem w_4_63 : Cond.methodLink RX11 251 yX4_layRing ∈ lwG := lwG_of (mt_4 (List.mem_of_getElem? (i := 63) (by decide +kernel))) rfl
theorem w_4_64 : Cond.instanceMethod yX4_layRing ∈ lwG := lwG_of (mt_4 (List.mem_of_getElem? (i := 64) (by decide +kernel))) rfl
theorem w_4_65 : Cond.selects RX4 yX4_layRing yX4_layRing ∈ lwG := lwG_of (mt_4 (List.mem_of_getElem? (i := 65) (by decide +kernel))) rfl
theorem gzX11_251 {a : Cond} : GoodIn (a :: lwG) (wsV RX11 251 RX4 yX4_layRing wzX4_layRing) := goodG (by
  show ∀ w ∈ (_ :: _), w ∈ lwG
  exact List.forall_mem_cons.mpr ⟨w_4_63, List.forall_mem_cons.mpr ⟨w_4_64, List.forall_mem_cons.mpr ⟨w_4_65, List.forall_mem_cons.mpr ⟨w_1_8, azX4_layRing⟩⟩⟩⟩)
theorem w_4_93 : Cond.methodLink RX11 254 yX4_inRing ∈ lwG := lwG_of (mt_4 (List.mem_of_getElem? (i := 93) (by decide +kernel))) rfl
theorem w_4_94 : Cond.instanceMethod yX4_inRing ∈ lwG := lwG_of (mt_4 (List.mem_of_getElem? (i := 94) (by decide +kernel))) rfl
theorem w_4_95 : Cond.selects RX4 yX4_inRing yX4_inRing ∈ lwG := lwG_of (mt_4 (List.mem_of_getElem? (i := 95) (by decide +kernel))) rfl
theorem gzX11_254 {a : Cond} : GoodIn (a :: lwG) (wsV RX11 254 RX4 yX4_inRing wzX4_inRing) := goodG (by
  show ∀ w ∈ (_ :: _), w ∈ lwG
  exact List.forall_mem_cons.mpr ⟨w_4_93, List.forall_mem_cons.mpr ⟨w_4_94, List.forall_mem_cons.mpr ⟨w_4_95, List.forall_mem_cons.mpr ⟨w_1_8, azX4_inRing⟩⟩⟩⟩)
theorem w_4_101 : Cond.methodLink RX11 263 yX8_clear ∈ lwG := lwG_of (mt_4 (List.mem_of_getElem? (i := 101) (by decide +kernel))) rfl
theorem w_4_102 : Cond.instanceMethod yX8_clear ∈ lwG := lwG_of (mt_4 (List.mem_of_getElem? (i := 102) (by decide +kernel))) rfl
theorem w_4_103 : Cond.selects RX8 yX8_clear yX8_clear ∈ lwG := lwG_of (mt_4 (List.mem_of_getElem? (i := 103) (by decide +kernel))) rfl
theorem gzX11_263 {a : Cond} : GoodIn (a :: lwG) (wsV RX11 263 RX8 yX8_clear wzX8_clear) := goodG (by
  show ∀ w ∈ (_ :: _), w ∈ lwG
  exact List.forall_mem_cons.mpr ⟨w_4_101, List.forall_mem_cons.mpr ⟨w_4_102, List.forall_mem_cons.mpr ⟨w_4_103, List.forall_mem_cons.mpr ⟨w_1_3, azX8_clear⟩⟩⟩⟩)
theorem w_4_109 : Cond.methodLink RX11 266 yX11_isNoName ∈ lwG := lwG_of (mt_4 (List.mem_of_getElem? (i := 109) (by decide +kernel))) rfl
theorem w_4_111 : Cond.instanceMethod yX11_isNoName ∈ lwG := lwG_of (mt_4 (List.mem_of_getElem? (i := 111) (by decide +kernel))) rfl
theorem w_0_34 : Cond.selects RX11 yX11_isNoName yX11_isNoName ∈ lwG := lwG_of (mt_0 (List.mem_of_getElem? (i := 34) (by decide +kernel))) rfl
theorem gzX11_266 {a : Cond} : GoodIn (a :: lwG) (wsV RX11 266 RX11 yX11_isNoName wzX11_isNoName) := goodG (by
  show ∀ w ∈ (_ :: _), w ∈ lwG
  exact List.forall_mem_cons.mpr ⟨w_4_109, List.forall_mem_cons.mpr ⟨w_4_111, List.forall_mem_cons.mpr ⟨w_0_34, List.forall_mem_cons.mpr ⟨w_1_1, azX11_isNoName⟩⟩⟩⟩)
theorem w_4_117 : Cond.methodLink RX11 269 yX10_know ∈ lwG := lwG_of (mt_4 (List.mem_of_getElem? (i := 117) (by decide +kernel))) rfl
theorem w_4_118 : Cond.instanceMethod yX10_know ∈ lwG := lwG_of (mt_4 (List.mem_of_getElem? (i := 118) (by decide +kernel))) rfl
theorem w_4_119 : Cond.selects RX10 yX10_know yX10_know ∈ lwG := lwG_of (mt_4 (List.mem_of_getElem? (i := 119) (by decide +kernel))) rfl
theorem gzX11_269 {a : Cond} : GoodIn (a :: lwG) (wsV RX11 269 RX10 yX10_know wzX10_know) := goodG (by
  show ∀ w ∈ (_ :: _), w ∈ lwG
  exact List.forall_mem_cons.mpr ⟨w_4_117, List.forall_mem_cons.mpr ⟨w_4_118, List.forall_mem_cons.mpr ⟨w_4_119, List.forall_mem_cons.mpr ⟨w_1_10, azX10_know⟩⟩⟩⟩)
theorem w_4_123 : Cond.methodLink RX11 272 yX10_countOrders ∈ lwG := lwG_of (mt_4 (List.mem_of_getElem? (i := 123) (by decide +kernel))) rfl
theorem w_4_124 : Cond.instanceMethod yX10_countOrders ∈ lwG := lwG_of (mt_4 (List.mem_of_getElem? (i := 124) (by decide +kernel))) rfl
theorem w_4_125 : Cond.selects RX10 yX10_countOrders yX10_countOrders ∈ lwG := lwG_of (mt_4 (List.mem_of_getElem? (i := 125) (by decide +kernel))) rfl
theorem gzX11_272 {a : Cond} : GoodIn (a :: lwG) (wsV RX11 272 RX10 yX10_countOrders wzX10_countOrders) := goodG (by
  show ∀ w ∈ (_ :: _), w ∈ lwG
  exact List.forall_mem_cons.mpr ⟨w_4_123, List.forall_mem_cons.mpr ⟨w_4_124, List.forall_mem_cons.mpr ⟨w_4_125, List.forall_mem_cons.mpr ⟨w_1_10, azX10_countOrders⟩⟩⟩⟩)
theorem w_4_136 : Cond.methodLink RX11 275 yX10_layFirstOrder ∈ lwG := lwG_of (mt_4 (List.mem_of_getElem? (i := 136) (by decide +kernel))) rfl
theorem w_4_137 : Cond.instanceMethod yX10_layFirstOrder ∈ lwG := lwG_of (mt_4 (List.mem_of_getElem? (i := 137) (by decide +kernel))) rfl
theorem w_4_138 : Cond.selects RX10 yX10_layFirstOrder yX10_layFirstOrder ∈ lwG := lwG_of (mt_4 (List.mem_of_getElem? (i := 138) (by decide +kernel))) rfl
theorem gzX11_275 {a : Cond} : GoodIn (a :: lwG) (wsV RX11 275 RX10 yX10_layFirstOrder wzX10_layFirstOrder) := goodG (by
  show ∀ w ∈ (_ :: _), w ∈ lwG
  exact List.forall_mem_cons.mpr ⟨w_4_136, List.forall_mem_cons.mpr ⟨w_4_137, List.forall_mem_cons.mpr ⟨w_4_138, List.forall_mem_cons.mpr ⟨w_1_10, azX10_layFirstOrder⟩⟩⟩⟩)
theorem w_4_144 : Cond.methodLink RX11 278 yX10_countAhead ∈ lwG := lwG_of (mt_4 (List.mem_of_getElem? (i := 144) (by decide +kernel))) rfl
theorem w_4_145 : Cond.instanceMethod yX10_countAhead ∈ lwG := lwG_of (mt_4 (List.mem_of_getElem? (i := 145) (by decide +kernel))) rfl
theorem w_4_146 : Cond.selects RX10 yX10_countAhead yX10_countAhead ∈ lwG := lwG_of (mt_4 (List.mem_of_getElem? (i := 146) (by decide +kernel))) rfl
theorem gzX11_278 {a : Cond} : GoodIn (a :: lwG) (wsV RX11 278 RX10 yX10_countAhead wzX10_countAhead) := goodG (by
  show ∀ w ∈ (_ :: _), w ∈ lwG
  exact List.forall_mem_cons.mpr ⟨w_4_144, List.forall_mem_cons.mpr ⟨w_4_145, List.forall_mem_cons.mpr ⟨w_4_146, List.forall_mem_cons.mpr ⟨w_1_10, azX10_countAhead⟩⟩⟩⟩)
theorem w_4_154 : Cond.methodLink RX11 281 yX10_countBehind ∈ lwG := lwG_of (mt_4 (List.mem_of_getElem? (i := 154) (by decide +kernel))) rfl
theorem w_4_155 : Cond.instanceMethod yX10_countBehind ∈ lwG := lwG_of (mt_4 (List.mem_of_getElem? (i := 155) (by decide +kernel))) rfl
theorem w_4_156 : Cond.selects RX10 yX10_countBehind yX10_countBehind ∈ lwG := lwG_of (mt_4 (List.mem_of_getElem? (i := 156) (by decide +kernel))) rfl
theorem gzX11_281 {a : Cond} : GoodIn (a :: lwG) (wsV RX11 281 RX10 yX10_countBehind wzX10_countBehind) := goodG (by
  show ∀ w ∈ (_ :: _), w ∈ lwG
  exact List.forall_mem_cons.mpr ⟨w_4_154, List.forall_mem_cons.mpr ⟨w_4_155, List.forall_mem_cons.mpr ⟨w_4_156, List.forall_mem_cons.mpr ⟨w_1_10, azX10_countBehind⟩⟩⟩⟩)
theorem w_4_162 : Cond.methodLink RX11 284 yX10_nameAt ∈ lwG := lwG_of (mt_4 (List.mem_of_getElem? (i := 162) (by decide +kernel))) rfl
theorem w_4_163 : Cond.instanceMethod yX10_nameAt ∈ lwG := lwG_of (mt_4 (List.mem_of_getElem? (i := 163) (by decide +kernel))) rfl
theorem w_4_164 : Cond.selects RX10 yX10_nameAt yX10_nameAt ∈ lwG := lwG_of (mt_4 (List.mem_of_getElem? (i := 164) (by decide +kernel))) rfl
theorem gzX11_284 {a : Cond} : GoodIn (a :: lwG) (wsV RX11 284 RX10 yX10_nameAt wzX10_nameAt) := goodG (by
  show ∀ w ∈ (_ :: _), w ∈ lwG
  exact List.forall_mem_cons.mpr ⟨w_4_162, List.forall_mem_cons.mpr ⟨w_4_163, List.forall_mem_cons.mpr ⟨w_4_164, List.forall_mem_cons.mpr ⟨w_1_10, azX10_nameAt⟩⟩⟩⟩)
theorem w_4_174 : Cond.methodLink RX11 290 yX6_fill ∈ lwG := lwG_of (mt_4 (List.mem_of_getElem? (i := 174) (by decide +kernel))) rfl
theorem w_4_175 : Cond.instanceMethod yX6_fill ∈ lwG := lwG_of (mt_4 (List.mem_of_getElem? (i := 175) (by decide +kernel))) rfl
theorem w_4_176 : Cond.selects RX6 yX6_fill yX6_fill ∈ lwG := lwG_of (mt_4 (List.mem_of_getElem? (i := 176) (by decide +kernel))) rfl
theorem w_1_11 : Cond.initialized RX6 ∈ lwG := lwG_of (mt_1 (List.mem_of_getElem? (i := 11) (by decide +kernel))) rfl
theorem gzX11_290 {a : Cond} : GoodIn (a :: lwG) (wsV RX11 290 RX6 yX6_fill wzX6_fill) := goodG (by
  show ∀ w ∈ (_ :: _), w ∈ lwG
  exact List.forall_mem_cons.mpr ⟨w_4_174, List.forall_mem_cons.mpr ⟨w_4_175, List.forall_mem_cons.mpr ⟨w_4_176, List.forall_mem_cons.mpr ⟨w_1_11, azX6_fill⟩⟩⟩⟩)
theorem w_4_188 : Cond.methodLink RX11 293 yX6_knownTo ∈ lwG := lwG_of (mt_4 (List.mem_of_getElem? (i := 188) (by decide +kernel))) rfl
theorem w_4_181 : Cond.instanceMethod yX6_knownTo ∈ lwG := lwG_of (mt_4 (List.mem_of_getElem? (i := 181) (by decide +kernel))) rfl
theorem w_4_182 : Cond.selects RX6 yX6_knownTo yX6_knownTo ∈ lwG := lwG_of (mt_4 (List.mem_of_getElem? (i := 182) (by decide +kernel))) rfl
theorem gzX11_293 {a : Cond} : GoodIn (a :: lwG) (wsV RX11 293 RX6 yX6_knownTo wzX6_knownTo) := goodG (by
  show ∀ w ∈ (_ :: _), w ∈ lwG
  exact List.forall_mem_cons.mpr ⟨w_4_188, List.forall_mem_cons.mpr ⟨w_4_181, List.forall_mem_cons.mpr ⟨w_4_182, List.forall_mem_cons.mpr ⟨w_1_11, azX6_knownTo⟩⟩⟩⟩)
theorem w_4_193 : Cond.methodLink RX11 299 yX6_carriedBy ∈ lwG := lwG_of (mt_4 (List.mem_of_getElem? (i := 193) (by decide +kernel))) rfl
theorem w_4_185 : Cond.instanceMethod yX6_carriedBy ∈ lwG := lwG_of (mt_4 (List.mem_of_getElem? (i := 185) (by decide +kernel))) rfl
theorem w_4_186 : Cond.selects RX6 yX6_carriedBy yX6_carriedBy ∈ lwG := lwG_of (mt_4 (List.mem_of_getElem? (i := 186) (by decide +kernel))) rfl
theorem gzX11_299 {a : Cond} : GoodIn (a :: lwG) (wsV RX11 299 RX6 yX6_carriedBy wzX6_carriedBy) := goodG (by
  show ∀ w ∈ (_ :: _), w ∈ lwG
  exact List.forall_mem_cons.mpr ⟨w_4_193, List.forall_mem_cons.mpr ⟨w_4_185, List.forall_mem_cons.mpr ⟨w_4_186, List.forall_mem_cons.mpr ⟨w_1_11, azX6_carriedBy⟩⟩⟩⟩)
theorem w_4_202 : Cond.methodLink RX11 305 yX3_tellApart ∈ lwG := lwG_of (mt_4 (List.mem_of_getElem? (i := 202) (by decide +kernel))) rfl
theorem w_4_203 : Cond.instanceMethod yX3_tellApart ∈ lwG := lwG_of (mt_4 (List.mem_of_getElem? (i := 203) (by decide +kernel))) rfl
theorem w_4_204 : Cond.selects RX3 yX3_tellApart yX3_tellApart ∈ lwG := lwG_of (mt_4 (List.mem_of_getElem? (i := 204) (by decide +kernel))) rfl
theorem w_1_12 : Cond.initialized RX3 ∈ lwG := lwG_of (mt_1 (List.mem_of_getElem? (i := 12) (by decide +kernel))) rfl
theorem gzX11_305 {a : Cond} : GoodIn (a :: lwG) (wsV RX11 305 RX3 yX3_tellApart wzX3_tellApart) := goodG (by
  show ∀ w ∈ (_ :: _), w ∈ lwG
  exact List.forall_mem_cons.mpr ⟨w_4_202, List.forall_mem_cons.mpr ⟨w_4_203, List.forall_mem_cons.mpr ⟨w_4_204, List.forall_mem_cons.mpr ⟨w_1_12, azX3_tellApart⟩⟩⟩⟩)
theorem w_4_235 : Cond.methodLink RX11 308 yX3_leastOf ∈ lwG := lwG_of (mt_4 (List.mem_of_getElem? (i := 235) (by decide +kernel))) rfl
theorem w_4_236 : Cond.instanceMethod yX3_leastOf ∈ lwG := lwG_of (mt_4 (List.mem_of_getElem? (i := 236) (by decide +kernel))) rfl
theorem w_4_237 : Cond.selects RX3 yX3_leastOf yX3_leastOf ∈ lwG := lwG_of (mt_4 (List.mem_of_getElem? (i := 237) (by decide +kernel))) rfl
theorem gzX11_308 {a : Cond} : GoodIn (a :: lwG) (wsV RX11 308 RX3 yX3_leastOf wzX3_leastOf) := goodG (by
  show ∀ w ∈ (_ :: _), w ∈ lwG
  exact List.forall_mem_cons.mpr ⟨w_4_235, List.forall_mem_cons.mpr ⟨w_4_236, List.forall_mem_cons.mpr ⟨w_4_237, List.forall_mem_cons.mpr ⟨w_1_12, azX3_leastOf⟩⟩⟩⟩)
theorem w_5_15 : Cond.methodLink RX11 317 yX5_value ∈ lwG := lwG_of (mt_5 (List.mem_of_getElem? (i := 15) (by decide +kernel))) rfl
theorem w_5_16 : Cond.instanceMethod yX5_value ∈ lwG := lwG_of (mt_5 (List.mem_of_getElem? (i := 16) (by decide +kernel))) rfl
theorem w_5_17 : Cond.selects RX5 yX5_value yX5_value ∈ lwG := lwG_of (mt_5 (List.mem_of_getElem? (i := 17) (by decide +kernel))) rfl
theorem w_1_13 : Cond.initialized RX5 ∈ lwG := lwG_of (mt_1 (List.mem_of_getElem? (i := 13) (by decide +kernel))) rfl
theorem gzX11_317 {a : Cond} : GoodIn (a :: lwG) (wsV RX11 317 RX5 yX5_value wzX5_value) := goodG (by
  show ∀ w ∈ (_ :: _), w ∈ lwG
  exact List.forall_mem_cons.mpr ⟨w_5_15, List.forall_mem_cons.mpr ⟨w_5_16, List.forall_mem_cons.mpr ⟨w_5_17, List.forall_mem_cons.mpr ⟨w_1_13, azX5_value⟩⟩⟩⟩)
theorem w_5_30 : Cond.methodLink RX11 320 yX5_choose ∈ lwG := lwG_of (mt_5 (List.mem_of_getElem? (i := 30) (by decide +kernel))) rfl
theorem w_5_31 : Cond.instanceMethod yX5_choose ∈ lwG := lwG_of (mt_5 (List.mem_of_getElem? (i := 31) (by decide +kernel))) rfl
theorem w_5_32 : Cond.selects RX5 yX5_choose yX5_choose ∈ lwG := lwG_of (mt_5 (List.mem_of_getElem? (i := 32) (by decide +kernel))) rfl
theorem gzX11_320 {a : Cond} : GoodIn (a :: lwG) (wsV RX11 320 RX5 yX5_choose wzX5_choose) := goodG (by
  show ∀ w ∈ (_ :: _), w ∈ lwG
  exact List.forall_mem_cons.mpr ⟨w_5_30, List.forall_mem_cons.mpr ⟨w_5_31, List.forall_mem_cons.mpr ⟨w_5_32, List.forall_mem_cons.mpr ⟨w_1_13, azX5_choose⟩⟩⟩⟩)
theorem w_5_43 : Cond.methodLink RX11 329 yX5_wayOf ∈ lwG := lwG_of (mt_5 (List.mem_of_getElem? (i := 43) (by decide +kernel))) rfl
theorem w_5_44 : Cond.instanceMethod yX5_wayOf ∈ lwG := lwG_of (mt_5 (List.mem_of_getElem? (i := 44) (by decide +kernel))) rfl
theorem w_5_45 : Cond.selects RX5 yX5_wayOf yX5_wayOf ∈ lwG := lwG_of (mt_5 (List.mem_of_getElem? (i := 45) (by decide +kernel))) rfl
theorem gzX11_329 {a : Cond} : GoodIn (a :: lwG) (wsV RX11 329 RX5 yX5_wayOf wzX5_wayOf) := goodG (by
  show ∀ w ∈ (_ :: _), w ∈ lwG
  exact List.forall_mem_cons.mpr ⟨w_5_43, List.forall_mem_cons.mpr ⟨w_5_44, List.forall_mem_cons.mpr ⟨w_5_45, List.forall_mem_cons.mpr ⟨w_1_13, azX5_wayOf⟩⟩⟩⟩)
theorem w_5_56 : Cond.methodLink RX11 334 yX0_become ∈ lwG := lwG_of (mt_5 (List.mem_of_getElem? (i := 56) (by decide +kernel))) rfl
theorem w_5_57 : Cond.instanceMethod yX0_become ∈ lwG := lwG_of (mt_5 (List.mem_of_getElem? (i := 57) (by decide +kernel))) rfl
theorem w_5_58 : Cond.selects RX0 yX0_become yX0_become ∈ lwG := lwG_of (mt_5 (List.mem_of_getElem? (i := 58) (by decide +kernel))) rfl
theorem w_1_2 : Cond.initialized RX0 ∈ lwG := lwG_of (mt_1 (List.mem_of_getElem? (i := 2) (by decide +kernel))) rfl
theorem gzX11_334 {a : Cond} : GoodIn (a :: lwG) (wsV RX11 334 RX0 yX0_become wzX0_become) := goodG (by
  show ∀ w ∈ (_ :: _), w ∈ lwG
  exact List.forall_mem_cons.mpr ⟨w_5_56, List.forall_mem_cons.mpr ⟨w_5_57, List.forall_mem_cons.mpr ⟨w_5_58, List.forall_mem_cons.mpr ⟨w_1_2, azX0_become⟩⟩⟩⟩)
theorem w_5_76 : Cond.methodLink RX11 337 yX0_howMany ∈ lwG := lwG_of (mt_5 (List.mem_of_getElem? (i := 76) (by decide +kernel))) rfl
theorem w_5_77 : Cond.instanceMethod yX0_howMany ∈ lwG := lwG_of (mt_5 (List.mem_of_getElem? (i := 77) (by decide +kernel))) rfl
theorem w_5_78 : Cond.selects RX0 yX0_howMany yX0_howMany ∈ lwG := lwG_of (mt_5 (List.mem_of_getElem? (i := 78) (by decide +kernel))) rfl
theorem gzX11_337 {a : Cond} : GoodIn (a :: lwG) (wsV RX11 337 RX0 yX0_howMany wzX0_howMany) := goodG (by
  show ∀ w ∈ (_ :: _), w ∈ lwG
  exact List.forall_mem_cons.mpr ⟨w_5_76, List.forall_mem_cons.mpr ⟨w_5_77, List.forall_mem_cons.mpr ⟨w_5_78, List.forall_mem_cons.mpr ⟨w_1_2, azX0_howMany⟩⟩⟩⟩)
theorem w_5_86 : Cond.methodLink RX11 344 yX0_mixPeople ∈ lwG := lwG_of (mt_5 (List.mem_of_getElem? (i := 86) (by decide +kernel))) rfl
theorem w_5_87 : Cond.instanceMethod yX0_mixPeople ∈ lwG := lwG_of (mt_5 (List.mem_of_getElem? (i := 87) (by decide +kernel))) rfl
theorem w_5_88 : Cond.selects RX0 yX0_mixPeople yX0_mixPeople ∈ lwG := lwG_of (mt_5 (List.mem_of_getElem? (i := 88) (by decide +kernel))) rfl
theorem gzX11_344 {a : Cond} : GoodIn (a :: lwG) (wsV RX11 344 RX0 yX0_mixPeople wzX0_mixPeople) := goodG (by
  show ∀ w ∈ (_ :: _), w ∈ lwG
  exact List.forall_mem_cons.mpr ⟨w_5_86, List.forall_mem_cons.mpr ⟨w_5_87, List.forall_mem_cons.mpr ⟨w_5_88, List.forall_mem_cons.mpr ⟨w_1_2, azX0_mixPeople⟩⟩⟩⟩)
theorem w_5_104 : Cond.methodLink RX11 348 yX0_mixTrade ∈ lwG := lwG_of (mt_5 (List.mem_of_getElem? (i := 104) (by decide +kernel))) rfl
theorem w_5_105 : Cond.instanceMethod yX0_mixTrade ∈ lwG := lwG_of (mt_5 (List.mem_of_getElem? (i := 105) (by decide +kernel))) rfl
theorem w_5_106 : Cond.selects RX0 yX0_mixTrade yX0_mixTrade ∈ lwG := lwG_of (mt_5 (List.mem_of_getElem? (i := 106) (by decide +kernel))) rfl
theorem gzX11_348 {a : Cond} : GoodIn (a :: lwG) (wsV RX11 348 RX0 yX0_mixTrade wzX0_mixTrade) := goodG (by
  show ∀ w ∈ (_ :: _), w ∈ lwG
  exact List.forall_mem_cons.mpr ⟨w_5_104, List.forall_mem_cons.mpr ⟨w_5_105, List.forall_mem_cons.mpr ⟨w_5_106, List.forall_mem_cons.mpr ⟨w_1_2, azX0_mixTrade⟩⟩⟩⟩)
theorem w_6_92 : Cond.methodLink RX12 85 yX12_house ∈ lwG := lwG_of (mt_6 (List.mem_of_getElem? (i := 92) (by decide +kernel))) rfl
theorem w_6_94 : Cond.instanceMethod yX12_house ∈ lwG := lwG_of (mt_6 (List.mem_of_getElem? (i := 94) (by decide +kernel))) rfl
theorem w_0_61 : Cond.selects RX12 yX12_house yX12_house ∈ lwG := lwG_of (mt_0 (List.mem_of_getElem? (i := 61) (by decide +kernel))) rfl
theorem gzX12_85 {a : Cond} : GoodIn (a :: lwG) (wsV RX12 85 RX12 yX12_house wzX12_house) := goodG (by
  show ∀ w ∈ (_ :: _), w ∈ lwG
  exact List.forall_mem_cons.mpr ⟨w_6_92, List.forall_mem_cons.mpr ⟨w_6_94, List.forall_mem_cons.mpr ⟨w_0_61, List.forall_mem_cons.mpr ⟨w_1_14, azX12_house⟩⟩⟩⟩)
theorem w_5_200 : Cond.methodLink RX12 91 yX12_one ∈ lwG := lwG_of (mt_5 (List.mem_of_getElem? (i := 200) (by decide +kernel))) rfl
theorem w_5_202 : Cond.instanceMethod yX12_one ∈ lwG := lwG_of (mt_5 (List.mem_of_getElem? (i := 202) (by decide +kernel))) rfl
theorem w_0_46 : Cond.selects RX12 yX12_one yX12_one ∈ lwG := lwG_of (mt_0 (List.mem_of_getElem? (i := 46) (by decide +kernel))) rfl
theorem gzX12_91 {a : Cond} : GoodIn (a :: lwG) (wsV RX12 91 RX12 yX12_one wzX12_one) := goodG (by
  show ∀ w ∈ (_ :: _), w ∈ lwG
  exact List.forall_mem_cons.mpr ⟨w_5_200, List.forall_mem_cons.mpr ⟨w_5_202, List.forall_mem_cons.mpr ⟨w_0_46, List.forall_mem_cons.mpr ⟨w_1_14, azX12_one⟩⟩⟩⟩)
theorem w_6_0 : Cond.methodLink RX12 104 yX12_emits ∈ lwG := lwG_of (mt_6 (List.mem_of_getElem? (i := 0) (by decide +kernel))) rfl
theorem w_6_2 : Cond.instanceMethod yX12_emits ∈ lwG := lwG_of (mt_6 (List.mem_of_getElem? (i := 2) (by decide +kernel))) rfl
theorem w_0_51 : Cond.selects RX12 yX12_emits yX12_emits ∈ lwG := lwG_of (mt_0 (List.mem_of_getElem? (i := 51) (by decide +kernel))) rfl
theorem gzX12_104 {a : Cond} : GoodIn (a :: lwG) (wsV RX12 104 RX12 yX12_emits wzX12_emits) := goodG (by
  show ∀ w ∈ (_ :: _), w ∈ lwG
  exact List.forall_mem_cons.mpr ⟨w_6_0, List.forall_mem_cons.mpr ⟨w_6_2, List.forall_mem_cons.mpr ⟨w_0_51, List.forall_mem_cons.mpr ⟨w_1_14, azX12_emits⟩⟩⟩⟩)
theorem w_5_233 : Cond.methodLink RX12 108 yX12_settles ∈ lwG := lwG_of (mt_5 (List.mem_of_getElem? (i := 233) (by decide +kernel))) rfl
theorem w_5_235 : Cond.instanceMethod yX12_settles ∈ lwG := lwG_of (mt_5 (List.mem_of_getElem? (i := 235) (by decide +kernel))) rfl
theorem w_0_50 : Cond.selects RX12 yX12_settles yX12_settles ∈ lwG := lwG_of (mt_0 (List.mem_of_getElem? (i := 50) (by decide +kernel))) rfl
theorem gzX12_108 {a : Cond} : GoodIn (a :: lwG) (wsV RX12 108 RX12 yX12_settles wzX12_settles) := goodG (by
  show ∀ w ∈ (_ :: _), w ∈ lwG
  exact List.forall_mem_cons.mpr ⟨w_5_233, List.forall_mem_cons.mpr ⟨w_5_235, List.forall_mem_cons.mpr ⟨w_0_50, List.forall_mem_cons.mpr ⟨w_1_14, azX12_settles⟩⟩⟩⟩)
theorem w_6_4 : Cond.methodLink RX12 112 yX12_waitsWith ∈ lwG := lwG_of (mt_6 (List.mem_of_getElem? (i := 4) (by decide +kernel))) rfl
theorem w_6_6 : Cond.instanceMethod yX12_waitsWith ∈ lwG := lwG_of (mt_6 (List.mem_of_getElem? (i := 6) (by decide +kernel))) rfl
theorem w_0_52 : Cond.selects RX12 yX12_waitsWith yX12_waitsWith ∈ lwG := lwG_of (mt_0 (List.mem_of_getElem? (i := 52) (by decide +kernel))) rfl
theorem gzX12_112 {a : Cond} : GoodIn (a :: lwG) (wsV RX12 112 RX12 yX12_waitsWith wzX12_waitsWith) := goodG (by
  show ∀ w ∈ (_ :: _), w ∈ lwG
  exact List.forall_mem_cons.mpr ⟨w_6_4, List.forall_mem_cons.mpr ⟨w_6_6, List.forall_mem_cons.mpr ⟨w_0_52, List.forall_mem_cons.mpr ⟨w_1_14, azX12_waitsWith⟩⟩⟩⟩)
theorem w_5_229 : Cond.methodLink RX12 115 yX12_closes ∈ lwG := lwG_of (mt_5 (List.mem_of_getElem? (i := 229) (by decide +kernel))) rfl
theorem w_5_231 : Cond.instanceMethod yX12_closes ∈ lwG := lwG_of (mt_5 (List.mem_of_getElem? (i := 231) (by decide +kernel))) rfl
theorem w_0_49 : Cond.selects RX12 yX12_closes yX12_closes ∈ lwG := lwG_of (mt_0 (List.mem_of_getElem? (i := 49) (by decide +kernel))) rfl
theorem gzX12_115 {a : Cond} : GoodIn (a :: lwG) (wsV RX12 115 RX12 yX12_closes wzX12_closes) := goodG (by
  show ∀ w ∈ (_ :: _), w ∈ lwG
  exact List.forall_mem_cons.mpr ⟨w_5_229, List.forall_mem_cons.mpr ⟨w_5_231, List.forall_mem_cons.mpr ⟨w_0_49, List.forall_mem_cons.mpr ⟨w_1_14, azX12_closes⟩⟩⟩⟩)
theorem w_6_11 : Cond.methodLink RX12 122 yX12_goesOn ∈ lwG := lwG_of (mt_6 (List.mem_of_getElem? (i := 11) (by decide +kernel))) rfl
theorem w_6_13 : Cond.instanceMethod yX12_goesOn ∈ lwG := lwG_of (mt_6 (List.mem_of_getElem? (i := 13) (by decide +kernel))) rfl
theorem w_0_53 : Cond.selects RX12 yX12_goesOn yX12_goesOn ∈ lwG := lwG_of (mt_0 (List.mem_of_getElem? (i := 53) (by decide +kernel))) rfl
theorem gzX12_122 {a : Cond} : GoodIn (a :: lwG) (wsV RX12 122 RX12 yX12_goesOn wzX12_goesOn) := goodG (by
  show ∀ w ∈ (_ :: _), w ∈ lwG
  exact List.forall_mem_cons.mpr ⟨w_6_11, List.forall_mem_cons.mpr ⟨w_6_13, List.forall_mem_cons.mpr ⟨w_0_53, List.forall_mem_cons.mpr ⟨w_1_14, azX12_goesOn⟩⟩⟩⟩)
theorem w_5_217 : Cond.methodLink RX12 144 yX12_puts ∈ lwG := lwG_of (mt_5 (List.mem_of_getElem? (i := 217) (by decide +kernel))) rfl
theorem w_5_219 : Cond.instanceMethod yX12_puts ∈ lwG := lwG_of (mt_5 (List.mem_of_getElem? (i := 219) (by decide +kernel))) rfl
theorem w_0_47 : Cond.selects RX12 yX12_puts yX12_puts ∈ lwG := lwG_of (mt_0 (List.mem_of_getElem? (i := 47) (by decide +kernel))) rfl
theorem gzX12_144 {a : Cond} : GoodIn (a :: lwG) (wsV RX12 144 RX12 yX12_puts wzX12_puts) := goodG (by
  show ∀ w ∈ (_ :: _), w ∈ lwG
  exact List.forall_mem_cons.mpr ⟨w_5_217, List.forall_mem_cons.mpr ⟨w_5_219, List.forall_mem_cons.mpr ⟨w_0_47, List.forall_mem_cons.mpr ⟨w_1_14, azX12_puts⟩⟩⟩⟩)
theorem w_5_225 : Cond.methodLink RX12 148 yX12_reads ∈ lwG := lwG_of (mt_5 (List.mem_of_getElem? (i := 225) (by decide +kernel))) rfl
theorem w_5_227 : Cond.instanceMethod yX12_reads ∈ lwG := lwG_of (mt_5 (List.mem_of_getElem? (i := 227) (by decide +kernel))) rfl
theorem w_0_48 : Cond.selects RX12 yX12_reads yX12_reads ∈ lwG := lwG_of (mt_0 (List.mem_of_getElem? (i := 48) (by decide +kernel))) rfl
theorem gzX12_148 {a : Cond} : GoodIn (a :: lwG) (wsV RX12 148 RX12 yX12_reads wzX12_reads) := goodG (by
  show ∀ w ∈ (_ :: _), w ∈ lwG
  exact List.forall_mem_cons.mpr ⟨w_5_225, List.forall_mem_cons.mpr ⟨w_5_227, List.forall_mem_cons.mpr ⟨w_0_48, List.forall_mem_cons.mpr ⟨w_1_14, azX12_reads⟩⟩⟩⟩)
theorem w_6_31 : Cond.methodLink RX12 160 yX12_gives ∈ lwG := lwG_of (mt_6 (List.mem_of_getElem? (i := 31) (by decide +kernel))) rfl
theorem w_6_33 : Cond.instanceMethod yX12_gives ∈ lwG := lwG_of (mt_6 (List.mem_of_getElem? (i := 33) (by decide +kernel))) rfl
theorem w_0_54 : Cond.selects RX12 yX12_gives yX12_gives ∈ lwG := lwG_of (mt_0 (List.mem_of_getElem? (i := 54) (by decide +kernel))) rfl
theorem gzX12_160 {a : Cond} : GoodIn (a :: lwG) (wsV RX12 160 RX12 yX12_gives wzX12_gives) := goodG (by
  show ∀ w ∈ (_ :: _), w ∈ lwG
  exact List.forall_mem_cons.mpr ⟨w_6_31, List.forall_mem_cons.mpr ⟨w_6_33, List.forall_mem_cons.mpr ⟨w_0_54, List.forall_mem_cons.mpr ⟨w_1_14, azX12_gives⟩⟩⟩⟩)
theorem w_6_35 : Cond.methodLink RX12 164 yX12_tellsOf ∈ lwG := lwG_of (mt_6 (List.mem_of_getElem? (i := 35) (by decide +kernel))) rfl
theorem w_6_37 : Cond.instanceMethod yX12_tellsOf ∈ lwG := lwG_of (mt_6 (List.mem_of_getElem? (i := 37) (by decide +kernel))) rfl
theorem w_0_55 : Cond.selects RX12 yX12_tellsOf yX12_tellsOf ∈ lwG := lwG_of (mt_0 (List.mem_of_getElem? (i := 55) (by decide +kernel))) rfl
theorem gzX12_164 {a : Cond} : GoodIn (a :: lwG) (wsV RX12 164 RX12 yX12_tellsOf wzX12_tellsOf) := goodG (by
  show ∀ w ∈ (_ :: _), w ∈ lwG
  exact List.forall_mem_cons.mpr ⟨w_6_35, List.forall_mem_cons.mpr ⟨w_6_37, List.forall_mem_cons.mpr ⟨w_0_55, List.forall_mem_cons.mpr ⟨w_1_14, azX12_tellsOf⟩⟩⟩⟩)
theorem w_6_51 : Cond.methodLink RX12 170 yX12_inForce ∈ lwG := lwG_of (mt_6 (List.mem_of_getElem? (i := 51) (by decide +kernel))) rfl
theorem w_6_53 : Cond.instanceMethod yX12_inForce ∈ lwG := lwG_of (mt_6 (List.mem_of_getElem? (i := 53) (by decide +kernel))) rfl
theorem w_0_56 : Cond.selects RX12 yX12_inForce yX12_inForce ∈ lwG := lwG_of (mt_0 (List.mem_of_getElem? (i := 56) (by decide +kernel))) rfl
theorem gzX12_170 {a : Cond} : GoodIn (a :: lwG) (wsV RX12 170 RX12 yX12_inForce wzX12_inForce) := goodG (by
  show ∀ w ∈ (_ :: _), w ∈ lwG
  exact List.forall_mem_cons.mpr ⟨w_6_51, List.forall_mem_cons.mpr ⟨w_6_53, List.forall_mem_cons.mpr ⟨w_0_56, List.forall_mem_cons.mpr ⟨w_1_14, azX12_inForce⟩⟩⟩⟩)
theorem w_6_59 : Cond.methodLink RX12 173 yX12_is ∈ lwG := lwG_of (mt_6 (List.mem_of_getElem? (i := 59) (by decide +kernel))) rfl
theorem w_6_61 : Cond.instanceMethod yX12_is ∈ lwG := lwG_of (mt_6 (List.mem_of_getElem? (i := 61) (by decide +kernel))) rfl
theorem w_0_57 : Cond.selects RX12 yX12_is yX12_is ∈ lwG := lwG_of (mt_0 (List.mem_of_getElem? (i := 57) (by decide +kernel))) rfl
theorem gzX12_173 {a : Cond} : GoodIn (a :: lwG) (wsV RX12 173 RX12 yX12_is wzX12_is) := goodG (by
  show ∀ w ∈ (_ :: _), w ∈ lwG
  exact List.forall_mem_cons.mpr ⟨w_6_59, List.forall_mem_cons.mpr ⟨w_6_61, List.forall_mem_cons.mpr ⟨w_0_57, List.forall_mem_cons.mpr ⟨w_1_14, azX12_is⟩⟩⟩⟩)
theorem w_6_68 : Cond.methodLink RX12 179 yX12_debtOf ∈ lwG := lwG_of (mt_6 (List.mem_of_getElem? (i := 68) (by decide +kernel))) rfl
theorem w_6_70 : Cond.instanceMethod yX12_debtOf ∈ lwG := lwG_of (mt_6 (List.mem_of_getElem? (i := 70) (by decide +kernel))) rfl
theorem w_0_58 : Cond.selects RX12 yX12_debtOf yX12_debtOf ∈ lwG := lwG_of (mt_0 (List.mem_of_getElem? (i := 58) (by decide +kernel))) rfl
theorem gzX12_179 {a : Cond} : GoodIn (a :: lwG) (wsV RX12 179 RX12 yX12_debtOf wzX12_debtOf) := goodG (by
  show ∀ w ∈ (_ :: _), w ∈ lwG
  exact List.forall_mem_cons.mpr ⟨w_6_68, List.forall_mem_cons.mpr ⟨w_6_70, List.forall_mem_cons.mpr ⟨w_0_58, List.forall_mem_cons.mpr ⟨w_1_14, azX12_debtOf⟩⟩⟩⟩)
theorem w_6_88 : Cond.methodLink RX12 182 yX12_kin ∈ lwG := lwG_of (mt_6 (List.mem_of_getElem? (i := 88) (by decide +kernel))) rfl
theorem w_6_90 : Cond.instanceMethod yX12_kin ∈ lwG := lwG_of (mt_6 (List.mem_of_getElem? (i := 90) (by decide +kernel))) rfl
theorem w_0_60 : Cond.selects RX12 yX12_kin yX12_kin ∈ lwG := lwG_of (mt_0 (List.mem_of_getElem? (i := 60) (by decide +kernel))) rfl
theorem gzX12_182 {a : Cond} : GoodIn (a :: lwG) (wsV RX12 182 RX12 yX12_kin wzX12_kin) := goodG (by
  show ∀ w ∈ (_ :: _), w ∈ lwG
  exact List.forall_mem_cons.mpr ⟨w_6_88, List.forall_mem_cons.mpr ⟨w_6_90, List.forall_mem_cons.mpr ⟨w_0_60, List.forall_mem_cons.mpr ⟨w_1_14, azX12_kin⟩⟩⟩⟩)
theorem w_6_96 : Cond.methodLink RX12 185 yX12_town ∈ lwG := lwG_of (mt_6 (List.mem_of_getElem? (i := 96) (by decide +kernel))) rfl
theorem w_6_98 : Cond.instanceMethod yX12_town ∈ lwG := lwG_of (mt_6 (List.mem_of_getElem? (i := 98) (by decide +kernel))) rfl
theorem w_0_62 : Cond.selects RX12 yX12_town yX12_town ∈ lwG := lwG_of (mt_0 (List.mem_of_getElem? (i := 62) (by decide +kernel))) rfl
theorem gzX12_185 {a : Cond} : GoodIn (a :: lwG) (wsV RX12 185 RX12 yX12_town wzX12_town) := goodG (by
  show ∀ w ∈ (_ :: _), w ∈ lwG
  exact List.forall_mem_cons.mpr ⟨w_6_96, List.forall_mem_cons.mpr ⟨w_6_98, List.forall_mem_cons.mpr ⟨w_0_62, List.forall_mem_cons.mpr ⟨w_1_14, azX12_town⟩⟩⟩⟩)
theorem w_6_100 : Cond.methodLink RX12 188 yX12_told ∈ lwG := lwG_of (mt_6 (List.mem_of_getElem? (i := 100) (by decide +kernel))) rfl
theorem w_6_102 : Cond.instanceMethod yX12_told ∈ lwG := lwG_of (mt_6 (List.mem_of_getElem? (i := 102) (by decide +kernel))) rfl
theorem w_0_63 : Cond.selects RX12 yX12_told yX12_told ∈ lwG := lwG_of (mt_0 (List.mem_of_getElem? (i := 63) (by decide +kernel))) rfl
theorem gzX12_188 {a : Cond} : GoodIn (a :: lwG) (wsV RX12 188 RX12 yX12_told wzX12_told) := goodG (by
  show ∀ w ∈ (_ :: _), w ∈ lwG
  exact List.forall_mem_cons.mpr ⟨w_6_100, List.forall_mem_cons.mpr ⟨w_6_102, List.forall_mem_cons.mpr ⟨w_0_63, List.forall_mem_cons.mpr ⟨w_1_14, azX12_told⟩⟩⟩⟩)
theorem w_6_84 : Cond.methodLink RX12 196 yX12_owedOf ∈ lwG := lwG_of (mt_6 (List.mem_of_getElem? (i := 84) (by decide +kernel))) rfl
theorem w_6_86 : Cond.instanceMethod yX12_owedOf ∈ lwG := lwG_of (mt_6 (List.mem_of_getElem? (i := 86) (by decide +kernel))) rfl
theorem w_0_59 : Cond.selects RX12 yX12_owedOf yX12_owedOf ∈ lwG := lwG_of (mt_0 (List.mem_of_getElem? (i := 59) (by decide +kernel))) rfl
theorem gzX12_196 {a : Cond} : GoodIn (a :: lwG) (wsV RX12 196 RX12 yX12_owedOf wzX12_owedOf) := goodG (by
  show ∀ w ∈ (_ :: _), w ∈ lwG
  exact List.forall_mem_cons.mpr ⟨w_6_84, List.forall_mem_cons.mpr ⟨w_6_86, List.forall_mem_cons.mpr ⟨w_0_59, List.forall_mem_cons.mpr ⟨w_1_14, azX12_owedOf⟩⟩⟩⟩)
theorem w_6_121 : Cond.methodLink RX12 204 yX12_purseOf ∈ lwG := lwG_of (mt_6 (List.mem_of_getElem? (i := 121) (by decide +kernel))) rfl
theorem w_6_123 : Cond.instanceMethod yX12_purseOf ∈ lwG := lwG_of (mt_6 (List.mem_of_getElem? (i := 123) (by decide +kernel))) rfl
theorem w_0_65 : Cond.selects RX12 yX12_purseOf yX12_purseOf ∈ lwG := lwG_of (mt_0 (List.mem_of_getElem? (i := 65) (by decide +kernel))) rfl
theorem gzX12_204 {a : Cond} : GoodIn (a :: lwG) (wsV RX12 204 RX12 yX12_purseOf wzX12_purseOf) := goodG (by
  show ∀ w ∈ (_ :: _), w ∈ lwG
  exact List.forall_mem_cons.mpr ⟨w_6_121, List.forall_mem_cons.mpr ⟨w_6_123, List.forall_mem_cons.mpr ⟨w_0_65, List.forall_mem_cons.mpr ⟨w_1_14, azX12_purseOf⟩⟩⟩⟩)
theorem w_6_117 : Cond.methodLink RX12 209 yX12_shares ∈ lwG := lwG_of (mt_6 (List.mem_of_getElem? (i := 117) (by decide +kernel))) rfl
theorem w_6_119 : Cond.instanceMethod yX12_shares ∈ lwG := lwG_of (mt_6 (List.mem_of_getElem? (i := 119) (by decide +kernel))) rfl
theorem w_0_64 : Cond.selects RX12 yX12_shares yX12_shares ∈ lwG := lwG_of (mt_0 (List.mem_of_getElem? (i := 64) (by decide +kernel))) rfl
theorem gzX12_209 {a : Cond} : GoodIn (a :: lwG) (wsV RX12 209 RX12 yX12_shares wzX12_shares) := goodG (by
  show ∀ w ∈ (_ :: _), w ∈ lwG
  exact List.forall_mem_cons.mpr ⟨w_6_117, List.forall_mem_cons.mpr ⟨w_6_119, List.forall_mem_cons.mpr ⟨w_0_64, List.forall_mem_cons.mpr ⟨w_1_14, azX12_shares⟩⟩⟩⟩)
theorem w_6_145 : Cond.methodLink RX12 219 yX12_wideOf ∈ lwG := lwG_of (mt_6 (List.mem_of_getElem? (i := 145) (by decide +kernel))) rfl
theorem w_6_147 : Cond.instanceMethod yX12_wideOf ∈ lwG := lwG_of (mt_6 (List.mem_of_getElem? (i := 147) (by decide +kernel))) rfl
theorem w_0_66 : Cond.selects RX12 yX12_wideOf yX12_wideOf ∈ lwG := lwG_of (mt_0 (List.mem_of_getElem? (i := 66) (by decide +kernel))) rfl
theorem gzX12_219 {a : Cond} : GoodIn (a :: lwG) (wsV RX12 219 RX12 yX12_wideOf wzX12_wideOf) := goodG (by
  show ∀ w ∈ (_ :: _), w ∈ lwG
  exact List.forall_mem_cons.mpr ⟨w_6_145, List.forall_mem_cons.mpr ⟨w_6_147, List.forall_mem_cons.mpr ⟨w_0_66, List.forall_mem_cons.mpr ⟨w_1_14, azX12_wideOf⟩⟩⟩⟩)
theorem w_6_158 : Cond.methodLink RX12 230 yX12_tellsFraction ∈ lwG := lwG_of (mt_6 (List.mem_of_getElem? (i := 158) (by decide +kernel))) rfl
theorem w_6_160 : Cond.instanceMethod yX12_tellsFraction ∈ lwG := lwG_of (mt_6 (List.mem_of_getElem? (i := 160) (by decide +kernel))) rfl
theorem w_0_67 : Cond.selects RX12 yX12_tellsFraction yX12_tellsFraction ∈ lwG := lwG_of (mt_0 (List.mem_of_getElem? (i := 67) (by decide +kernel))) rfl
theorem gzX12_230 {a : Cond} : GoodIn (a :: lwG) (wsV RX12 230 RX12 yX12_tellsFraction wzX12_tellsFraction) := goodG (by
  show ∀ w ∈ (_ :: _), w ∈ lwG
  exact List.forall_mem_cons.mpr ⟨w_6_158, List.forall_mem_cons.mpr ⟨w_6_160, List.forall_mem_cons.mpr ⟨w_0_67, List.forall_mem_cons.mpr ⟨w_1_14, azX12_tellsFraction⟩⟩⟩⟩)
theorem w_6_181 : Cond.methodLink RX12 234 yX12_balanceOf ∈ lwG := lwG_of (mt_6 (List.mem_of_getElem? (i := 181) (by decide +kernel))) rfl
theorem w_6_183 : Cond.instanceMethod yX12_balanceOf ∈ lwG := lwG_of (mt_6 (List.mem_of_getElem? (i := 183) (by decide +kernel))) rfl
theorem w_0_68 : Cond.selects RX12 yX12_balanceOf yX12_balanceOf ∈ lwG := lwG_of (mt_0 (List.mem_of_getElem? (i := 68) (by decide +kernel))) rfl
theorem gzX12_234 {a : Cond} : GoodIn (a :: lwG) (wsV RX12 234 RX12 yX12_balanceOf wzX12_balanceOf) := goodG (by
  show ∀ w ∈ (_ :: _), w ∈ lwG
  exact List.forall_mem_cons.mpr ⟨w_6_181, List.forall_mem_cons.mpr ⟨w_6_183, List.forall_mem_cons.mpr ⟨w_0_68, List.forall_mem_cons.mpr ⟨w_1_14, azX12_balanceOf⟩⟩⟩⟩)
theorem w_6_202 : Cond.methodLink RX12 239 yX12_findCan ∈ lwG := lwG_of (mt_6 (List.mem_of_getElem? (i := 202) (by decide +kernel))) rfl
theorem w_6_204 : Cond.instanceMethod yX12_findCan ∈ lwG := lwG_of (mt_6 (List.mem_of_getElem? (i := 204) (by decide +kernel))) rfl
theorem w_0_71 : Cond.selects RX12 yX12_findCan yX12_findCan ∈ lwG := lwG_of (mt_0 (List.mem_of_getElem? (i := 71) (by decide +kernel))) rfl
theorem gzX12_239 {a : Cond} : GoodIn (a :: lwG) (wsV RX12 239 RX12 yX12_findCan wzX12_findCan) := goodG (by
  show ∀ w ∈ (_ :: _), w ∈ lwG
  exact List.forall_mem_cons.mpr ⟨w_6_202, List.forall_mem_cons.mpr ⟨w_6_204, List.forall_mem_cons.mpr ⟨w_0_71, List.forall_mem_cons.mpr ⟨w_1_14, azX12_findCan⟩⟩⟩⟩)
theorem w_6_194 : Cond.methodLink RX12 242 yX12_findOwes ∈ lwG := lwG_of (mt_6 (List.mem_of_getElem? (i := 194) (by decide +kernel))) rfl
theorem w_6_196 : Cond.instanceMethod yX12_findOwes ∈ lwG := lwG_of (mt_6 (List.mem_of_getElem? (i := 196) (by decide +kernel))) rfl
theorem w_0_69 : Cond.selects RX12 yX12_findOwes yX12_findOwes ∈ lwG := lwG_of (mt_0 (List.mem_of_getElem? (i := 69) (by decide +kernel))) rfl
theorem gzX12_242 {a : Cond} : GoodIn (a :: lwG) (wsV RX12 242 RX12 yX12_findOwes wzX12_findOwes) := goodG (by
  show ∀ w ∈ (_ :: _), w ∈ lwG
  exact List.forall_mem_cons.mpr ⟨w_6_194, List.forall_mem_cons.mpr ⟨w_6_196, List.forall_mem_cons.mpr ⟨w_0_69, List.forall_mem_cons.mpr ⟨w_1_14, azX12_findOwes⟩⟩⟩⟩)
theorem w_6_198 : Cond.methodLink RX12 245 yX12_findRing ∈ lwG := lwG_of (mt_6 (List.mem_of_getElem? (i := 198) (by decide +kernel))) rfl
theorem w_6_200 : Cond.instanceMethod yX12_findRing ∈ lwG := lwG_of (mt_6 (List.mem_of_getElem? (i := 200) (by decide +kernel))) rfl
theorem w_0_70 : Cond.selects RX12 yX12_findRing yX12_findRing ∈ lwG := lwG_of (mt_0 (List.mem_of_getElem? (i := 70) (by decide +kernel))) rfl
theorem gzX12_245 {a : Cond} : GoodIn (a :: lwG) (wsV RX12 245 RX12 yX12_findRing wzX12_findRing) := goodG (by
  show ∀ w ∈ (_ :: _), w ∈ lwG
  exact List.forall_mem_cons.mpr ⟨w_6_198, List.forall_mem_cons.mpr ⟨w_6_200, List.forall_mem_cons.mpr ⟨w_0_70, List.forall_mem_cons.mpr ⟨w_1_14, azX12_findRing⟩⟩⟩⟩)
theorem w_6_215 : Cond.methodLink RX12 250 yX12_isName ∈ lwG := lwG_of (mt_6 (List.mem_of_getElem? (i := 215) (by decide +kernel))) rfl
theorem w_6_217 : Cond.instanceMethod yX12_isName ∈ lwG := lwG_of (mt_6 (List.mem_of_getElem? (i := 217) (by decide +kernel))) rfl
theorem w_0_72 : Cond.selects RX12 yX12_isName yX12_isName ∈ lwG := lwG_of (mt_0 (List.mem_of_getElem? (i := 72) (by decide +kernel))) rfl
theorem gzX12_250 {a : Cond} : GoodIn (a :: lwG) (wsV RX12 250 RX12 yX12_isName wzX12_isName) := goodG (by
  show ∀ w ∈ (_ :: _), w ∈ lwG
  exact List.forall_mem_cons.mpr ⟨w_6_215, List.forall_mem_cons.mpr ⟨w_6_217, List.forall_mem_cons.mpr ⟨w_0_72, List.forall_mem_cons.mpr ⟨w_1_14, azX12_isName⟩⟩⟩⟩)
theorem w_6_230 : Cond.methodLink RX12 253 yX12_mayCome ∈ lwG := lwG_of (mt_6 (List.mem_of_getElem? (i := 230) (by decide +kernel))) rfl
theorem w_6_232 : Cond.instanceMethod yX12_mayCome ∈ lwG := lwG_of (mt_6 (List.mem_of_getElem? (i := 232) (by decide +kernel))) rfl
theorem w_0_74 : Cond.selects RX12 yX12_mayCome yX12_mayCome ∈ lwG := lwG_of (mt_0 (List.mem_of_getElem? (i := 74) (by decide +kernel))) rfl
theorem gzX12_253 {a : Cond} : GoodIn (a :: lwG) (wsV RX12 253 RX12 yX12_mayCome wzX12_mayCome) := goodG (by
  show ∀ w ∈ (_ :: _), w ∈ lwG
  exact List.forall_mem_cons.mpr ⟨w_6_230, List.forall_mem_cons.mpr ⟨w_6_232, List.forall_mem_cons.mpr ⟨w_0_74, List.forall_mem_cons.mpr ⟨w_1_14, azX12_mayCome⟩⟩⟩⟩)
theorem w_6_226 : Cond.methodLink RX12 259 yX12_findOrders ∈ lwG := lwG_of (mt_6 (List.mem_of_getElem? (i := 226) (by decide +kernel))) rfl
theorem w_6_228 : Cond.instanceMethod yX12_findOrders ∈ lwG := lwG_of (mt_6 (List.mem_of_getElem? (i := 228) (by decide +kernel))) rfl
theorem w_0_73 : Cond.selects RX12 yX12_findOrders yX12_findOrders ∈ lwG := lwG_of (mt_0 (List.mem_of_getElem? (i := 73) (by decide +kernel))) rfl
theorem gzX12_259 {a : Cond} : GoodIn (a :: lwG) (wsV RX12 259 RX12 yX12_findOrders wzX12_findOrders) := goodG (by
  show ∀ w ∈ (_ :: _), w ∈ lwG
  exact List.forall_mem_cons.mpr ⟨w_6_226, List.forall_mem_cons.mpr ⟨w_6_228, List.forall_mem_cons.mpr ⟨w_0_73, List.forall_mem_cons.mpr ⟨w_1_14, azX12_findOrders⟩⟩⟩⟩)
theorem w_7_20 : Cond.methodLink RX12 272 yX12_known ∈ lwG := lwG_of (mt_7 (List.mem_of_getElem? (i := 20) (by decide +kernel))) rfl
theorem w_7_22 : Cond.instanceMethod yX12_known ∈ lwG := lwG_of (mt_7 (List.mem_of_getElem? (i := 22) (by decide +kernel))) rfl
theorem w_0_76 : Cond.selects RX12 yX12_known yX12_known ∈ lwG := lwG_of (mt_0 (List.mem_of_getElem? (i := 76) (by decide +kernel))) rfl
theorem gzX12_272 {a : Cond} : GoodIn (a :: lwG) (wsV RX12 272 RX12 yX12_known wzX12_known) := goodG (by
  show ∀ w ∈ (_ :: _), w ∈ lwG
  exact List.forall_mem_cons.mpr ⟨w_7_20, List.forall_mem_cons.mpr ⟨w_7_22, List.forall_mem_cons.mpr ⟨w_0_76, List.forall_mem_cons.mpr ⟨w_1_14, azX12_known⟩⟩⟩⟩)
theorem w_7_16 : Cond.methodLink RX12 275 yX12_findLoads ∈ lwG := lwG_of (mt_7 (List.mem_of_getElem? (i := 16) (by decide +kernel))) rfl
theorem w_7_18 : Cond.instanceMethod yX12_findLoads ∈ lwG := lwG_of (mt_7 (List.mem_of_getElem? (i := 18) (by decide +kernel))) rfl
theorem w_0_75 : Cond.selects RX12 yX12_findLoads yX12_findLoads ∈ lwG := lwG_of (mt_0 (List.mem_of_getElem? (i := 75) (by decide +kernel))) rfl
theorem gzX12_275 {a : Cond} : GoodIn (a :: lwG) (wsV RX12 275 RX12 yX12_findLoads wzX12_findLoads) := goodG (by
  show ∀ w ∈ (_ :: _), w ∈ lwG
  exact List.forall_mem_cons.mpr ⟨w_7_16, List.forall_mem_cons.mpr ⟨w_7_18, List.forall_mem_cons.mpr ⟨w_0_75, List.forall_mem_cons.mpr ⟨w_1_14, azX12_findLoads⟩⟩⟩⟩)
theorem w_7_44 : Cond.methodLink RX12 282 yX12_mayBeOne ∈ lwG := lwG_of (mt_7 (List.mem_of_getElem? (i := 44) (by decide +kernel))) rfl
theorem w_7_46 : Cond.instanceMethod yX12_mayBeOne ∈ lwG := lwG_of (mt_7 (List.mem_of_getElem? (i := 46) (by decide +kernel))) rfl
theorem w_0_79 : Cond.selects RX12 yX12_mayBeOne yX12_mayBeOne ∈ lwG := lwG_of (mt_0 (List.mem_of_getElem? (i := 79) (by decide +kernel))) rfl
theorem gzX12_282 {a : Cond} : GoodIn (a :: lwG) (wsV RX12 282 RX12 yX12_mayBeOne wzX12_mayBeOne) := goodG (by
  show ∀ w ∈ (_ :: _), w ∈ lwG
  exact List.forall_mem_cons.mpr ⟨w_7_44, List.forall_mem_cons.mpr ⟨w_7_46, List.forall_mem_cons.mpr ⟨w_0_79, List.forall_mem_cons.mpr ⟨w_1_14, azX12_mayBeOne⟩⟩⟩⟩)
theorem w_7_40 : Cond.methodLink RX12 285 yX12_mayFollow ∈ lwG := lwG_of (mt_7 (List.mem_of_getElem? (i := 40) (by decide +kernel))) rfl
theorem w_7_42 : Cond.instanceMethod yX12_mayFollow ∈ lwG := lwG_of (mt_7 (List.mem_of_getElem? (i := 42) (by decide +kernel))) rfl
theorem w_0_78 : Cond.selects RX12 yX12_mayFollow yX12_mayFollow ∈ lwG := lwG_of (mt_0 (List.mem_of_getElem? (i := 78) (by decide +kernel))) rfl
theorem gzX12_285 {a : Cond} : GoodIn (a :: lwG) (wsV RX12 285 RX12 yX12_mayFollow wzX12_mayFollow) := goodG (by
  show ∀ w ∈ (_ :: _), w ∈ lwG
  exact List.forall_mem_cons.mpr ⟨w_7_40, List.forall_mem_cons.mpr ⟨w_7_42, List.forall_mem_cons.mpr ⟨w_0_78, List.forall_mem_cons.mpr ⟨w_1_14, azX12_mayFollow⟩⟩⟩⟩)
theorem w_7_36 : Cond.methodLink RX12 288 yX12_findMen ∈ lwG := lwG_of (mt_7 (List.mem_of_getElem? (i := 36) (by decide +kernel))) rfl
theorem w_7_38 : Cond.instanceMethod yX12_findMen ∈ lwG := lwG_of (mt_7 (List.mem_of_getElem? (i := 38) (by decide +kernel))) rfl
theorem w_0_77 : Cond.selects RX12 yX12_findMen yX12_findMen ∈ lwG := lwG_of (mt_0 (List.mem_of_getElem? (i := 77) (by decide +kernel))) rfl
theorem gzX12_288 {a : Cond} : GoodIn (a :: lwG) (wsV RX12 288 RX12 yX12_findMen wzX12_findMen) := goodG (by
  show ∀ w ∈ (_ :: _), w ∈ lwG
  exact List.forall_mem_cons.mpr ⟨w_7_36, List.forall_mem_cons.mpr ⟨w_7_38, List.forall_mem_cons.mpr ⟨w_0_77, List.forall_mem_cons.mpr ⟨w_1_14, azX12_findMen⟩⟩⟩⟩)
theorem w_7_66 : Cond.methodLink RX12 291 yX12_findSilver ∈ lwG := lwG_of (mt_7 (List.mem_of_getElem? (i := 66) (by decide +kernel))) rfl
theorem w_7_68 : Cond.instanceMethod yX12_findSilver ∈ lwG := lwG_of (mt_7 (List.mem_of_getElem? (i := 68) (by decide +kernel))) rfl
theorem w_0_80 : Cond.selects RX12 yX12_findSilver yX12_findSilver ∈ lwG := lwG_of (mt_0 (List.mem_of_getElem? (i := 80) (by decide +kernel))) rfl
theorem gzX12_291 {a : Cond} : GoodIn (a :: lwG) (wsV RX12 291 RX12 yX12_findSilver wzX12_findSilver) := goodG (by
  show ∀ w ∈ (_ :: _), w ∈ lwG
  exact List.forall_mem_cons.mpr ⟨w_7_66, List.forall_mem_cons.mpr ⟨w_7_68, List.forall_mem_cons.mpr ⟨w_0_80, List.forall_mem_cons.mpr ⟨w_1_14, azX12_findSilver⟩⟩⟩⟩)
theorem w_7_92 : Cond.methodLink RX12 300 yX12_mixed ∈ lwG := lwG_of (mt_7 (List.mem_of_getElem? (i := 92) (by decide +kernel))) rfl
theorem w_7_94 : Cond.instanceMethod yX12_mixed ∈ lwG := lwG_of (mt_7 (List.mem_of_getElem? (i := 94) (by decide +kernel))) rfl
theorem w_0_81 : Cond.selects RX12 yX12_mixed yX12_mixed ∈ lwG := lwG_of (mt_0 (List.mem_of_getElem? (i := 81) (by decide +kernel))) rfl
theorem gzX12_300 {a : Cond} : GoodIn (a :: lwG) (wsV RX12 300 RX12 yX12_mixed wzX12_mixed) := goodG (by
  show ∀ w ∈ (_ :: _), w ∈ lwG
  exact List.forall_mem_cons.mpr ⟨w_7_92, List.forall_mem_cons.mpr ⟨w_7_94, List.forall_mem_cons.mpr ⟨w_0_81, List.forall_mem_cons.mpr ⟨w_1_14, azX12_mixed⟩⟩⟩⟩)
theorem w_3_107 : Cond.methodLink RX2 29 yX8_get ∈ lwG := lwG_of (mt_3 (List.mem_of_getElem? (i := 107) (by decide +kernel))) rfl
theorem gzX2_29 {a : Cond} : GoodIn (a :: lwG) (wsV RX2 29 RX8 yX8_get wzX8_get) := goodG (by
  show ∀ w ∈ (_ :: _), w ∈ lwG
  exact List.forall_mem_cons.mpr ⟨w_3_107, List.forall_mem_cons.mpr ⟨w_2_187, List.forall_mem_cons.mpr ⟨w_2_188, List.forall_mem_cons.mpr ⟨w_1_3, azX8_get⟩⟩⟩⟩)
theorem w_3_108 : Cond.methodLink RX2 35 yX0_kin ∈ lwG := lwG_of (mt_3 (List.mem_of_getElem? (i := 108) (by decide +kernel))) rfl
theorem w_3_109 : Cond.instanceMethod yX0_kin ∈ lwG := lwG_of (mt_3 (List.mem_of_getElem? (i := 109) (by decide +kernel))) rfl
theorem w_3_110 : Cond.selects RX0 yX0_kin yX0_kin ∈ lwG := lwG_of (mt_3 (List.mem_of_getElem? (i := 110) (by decide +kernel))) rfl
theorem gzX2_35 {a : Cond} : GoodIn (a :: lwG) (wsV RX2 35 RX0 yX0_kin wzX0_kin) := goodG (by
  show ∀ w ∈ (_ :: _), w ∈ lwG
  exact List.forall_mem_cons.mpr ⟨w_3_108, List.forall_mem_cons.mpr ⟨w_3_109, List.forall_mem_cons.mpr ⟨w_3_110, List.forall_mem_cons.mpr ⟨w_1_2, azX0_kin⟩⟩⟩⟩)
theorem w_3_113 : Cond.methodLink RX2 41 yX2_gather ∈ lwG := lwG_of (mt_3 (List.mem_of_getElem? (i := 113) (by decide +kernel))) rfl
theorem w_3_115 : Cond.instanceMethod yX2_gather ∈ lwG := lwG_of (mt_3 (List.mem_of_getElem? (i := 115) (by decide +kernel))) rfl
theorem w_0_19 : Cond.selects RX2 yX2_gather yX2_gather ∈ lwG := lwG_of (mt_0 (List.mem_of_getElem? (i := 19) (by decide +kernel))) rfl
theorem gzX2_41 {a : Cond} : GoodIn (a :: lwG) (wsV RX2 41 RX2 yX2_gather wzX2_gather) := goodG (by
  show ∀ w ∈ (_ :: _), w ∈ lwG
  exact List.forall_mem_cons.mpr ⟨w_3_113, List.forall_mem_cons.mpr ⟨w_3_115, List.forall_mem_cons.mpr ⟨w_0_19, List.forall_mem_cons.mpr ⟨w_1_7, azX2_gather⟩⟩⟩⟩)
theorem w_3_120 : Cond.methodLink RX2 45 yX2_sumLent ∈ lwG := lwG_of (mt_3 (List.mem_of_getElem? (i := 120) (by decide +kernel))) rfl
theorem w_3_122 : Cond.instanceMethod yX2_sumLent ∈ lwG := lwG_of (mt_3 (List.mem_of_getElem? (i := 122) (by decide +kernel))) rfl
theorem w_0_20 : Cond.selects RX2 yX2_sumLent yX2_sumLent ∈ lwG := lwG_of (mt_0 (List.mem_of_getElem? (i := 20) (by decide +kernel))) rfl
theorem gzX2_45 {a : Cond} : GoodIn (a :: lwG) (wsV RX2 45 RX2 yX2_sumLent wzX2_sumLent) := goodG (by
  show ∀ w ∈ (_ :: _), w ∈ lwG
  exact List.forall_mem_cons.mpr ⟨w_3_120, List.forall_mem_cons.mpr ⟨w_3_122, List.forall_mem_cons.mpr ⟨w_0_20, List.forall_mem_cons.mpr ⟨w_1_7, azX2_sumLent⟩⟩⟩⟩)
theorem w_3_128 : Cond.methodLink RX2 58 yX1_said ∈ lwG := lwG_of (mt_3 (List.mem_of_getElem? (i := 128) (by decide +kernel))) rfl
theorem w_3_129 : Cond.instanceMethod yX1_said ∈ lwG := lwG_of (mt_3 (List.mem_of_getElem? (i := 129) (by decide +kernel))) rfl
theorem w_3_130 : Cond.selects RX1 yX1_said yX1_said ∈ lwG := lwG_of (mt_3 (List.mem_of_getElem? (i := 130) (by decide +kernel))) rfl
theorem gzX2_58 {a : Cond} : GoodIn (a :: lwG) (wsV RX2 58 RX1 yX1_said wzX1_said) := goodG (by
  show ∀ w ∈ (_ :: _), w ∈ lwG
  exact List.forall_mem_cons.mpr ⟨w_3_128, List.forall_mem_cons.mpr ⟨w_3_129, List.forall_mem_cons.mpr ⟨w_3_130, List.forall_mem_cons.mpr ⟨w_1_6, azX1_said⟩⟩⟩⟩)
theorem w_3_180 : Cond.methodLink RX2 86 yX2_sharesOfAll ∈ lwG := lwG_of (mt_3 (List.mem_of_getElem? (i := 180) (by decide +kernel))) rfl
theorem gzX2_86 {a : Cond} : GoodIn (a :: lwG) (wsV RX2 86 RX2 yX2_sharesOfAll wzX2_sharesOfAll) := goodG (by
  show ∀ w ∈ (_ :: _), w ∈ lwG
  exact List.forall_mem_cons.mpr ⟨w_3_180, List.forall_mem_cons.mpr ⟨w_3_159, List.forall_mem_cons.mpr ⟨w_3_160, List.forall_mem_cons.mpr ⟨w_1_7, azX2_sharesOfAll⟩⟩⟩⟩)
theorem w_3_181 : Cond.methodLink RX2 90 yX2_byShares ∈ lwG := lwG_of (mt_3 (List.mem_of_getElem? (i := 181) (by decide +kernel))) rfl
theorem w_3_183 : Cond.instanceMethod yX2_byShares ∈ lwG := lwG_of (mt_3 (List.mem_of_getElem? (i := 183) (by decide +kernel))) rfl
theorem w_0_22 : Cond.selects RX2 yX2_byShares yX2_byShares ∈ lwG := lwG_of (mt_0 (List.mem_of_getElem? (i := 22) (by decide +kernel))) rfl
theorem gzX2_90 {a : Cond} : GoodIn (a :: lwG) (wsV RX2 90 RX2 yX2_byShares wzX2_byShares) := goodG (by
  show ∀ w ∈ (_ :: _), w ∈ lwG
  exact List.forall_mem_cons.mpr ⟨w_3_181, List.forall_mem_cons.mpr ⟨w_3_183, List.forall_mem_cons.mpr ⟨w_0_22, List.forall_mem_cons.mpr ⟨w_1_7, azX2_byShares⟩⟩⟩⟩)
theorem w_4_206 : Cond.methodLink RX3 25 yX3_compare ∈ lwG := lwG_of (mt_4 (List.mem_of_getElem? (i := 206) (by decide +kernel))) rfl
theorem w_4_208 : Cond.instanceMethod yX3_compare ∈ lwG := lwG_of (mt_4 (List.mem_of_getElem? (i := 208) (by decide +kernel))) rfl
theorem w_0_37 : Cond.selects RX3 yX3_compare yX3_compare ∈ lwG := lwG_of (mt_0 (List.mem_of_getElem? (i := 37) (by decide +kernel))) rfl
theorem gzX3_25 {a : Cond} : GoodIn (a :: lwG) (wsV RX3 25 RX3 yX3_compare wzX3_compare) := goodG (by
  show ∀ w ∈ (_ :: _), w ∈ lwG
  exact List.forall_mem_cons.mpr ⟨w_4_206, List.forall_mem_cons.mpr ⟨w_4_208, List.forall_mem_cons.mpr ⟨w_0_37, List.forall_mem_cons.mpr ⟨w_1_12, azX3_compare⟩⟩⟩⟩)
theorem w_4_223 : Cond.methodLink RX3 34 yX3_settle ∈ lwG := lwG_of (mt_4 (List.mem_of_getElem? (i := 223) (by decide +kernel))) rfl
theorem w_4_225 : Cond.instanceMethod yX3_settle ∈ lwG := lwG_of (mt_4 (List.mem_of_getElem? (i := 225) (by decide +kernel))) rfl
theorem w_0_40 : Cond.selects RX3 yX3_settle yX3_settle ∈ lwG := lwG_of (mt_0 (List.mem_of_getElem? (i := 40) (by decide +kernel))) rfl
theorem gzX3_34 {a : Cond} : GoodIn (a :: lwG) (wsV RX3 34 RX3 yX3_settle wzX3_settle) := goodG (by
  show ∀ w ∈ (_ :: _), w ∈ lwG
  exact List.forall_mem_cons.mpr ⟨w_4_223, List.forall_mem_cons.mpr ⟨w_4_225, List.forall_mem_cons.mpr ⟨w_0_40, List.forall_mem_cons.mpr ⟨w_1_12, azX3_settle⟩⟩⟩⟩)
theorem w_4_210 : Cond.methodLink RX3 50 yX3_isOneMan ∈ lwG := lwG_of (mt_4 (List.mem_of_getElem? (i := 210) (by decide +kernel))) rfl
theorem w_4_212 : Cond.instanceMethod yX3_isOneMan ∈ lwG := lwG_of (mt_4 (List.mem_of_getElem? (i := 212) (by decide +kernel))) rfl
theorem w_0_38 : Cond.selects RX3 yX3_isOneMan yX3_isOneMan ∈ lwG := lwG_of (mt_0 (List.mem_of_getElem? (i := 38) (by decide +kernel))) rfl
theorem gzX3_50 {a : Cond} : GoodIn (a :: lwG) (wsV RX3 50 RX3 yX3_isOneMan wzX3_isOneMan) := goodG (by
  show ∀ w ∈ (_ :: _), w ∈ lwG
  exact List.forall_mem_cons.mpr ⟨w_4_210, List.forall_mem_cons.mpr ⟨w_4_212, List.forall_mem_cons.mpr ⟨w_0_38, List.forall_mem_cons.mpr ⟨w_1_12, azX3_isOneMan⟩⟩⟩⟩)
theorem w_4_214 : Cond.methodLink RX3 53 yX8_get ∈ lwG := lwG_of (mt_4 (List.mem_of_getElem? (i := 214) (by decide +kernel))) rfl
theorem gzX3_53 {a : Cond} : GoodIn (a :: lwG) (wsV RX3 53 RX8 yX8_get wzX8_get) := goodG (by
  show ∀ w ∈ (_ :: _), w ∈ lwG
  exact List.forall_mem_cons.mpr ⟨w_4_214, List.forall_mem_cons.mpr ⟨w_2_187, List.forall_mem_cons.mpr ⟨w_2_188, List.forall_mem_cons.mpr ⟨w_1_3, azX8_get⟩⟩⟩⟩)
theorem w_4_215 : Cond.methodLink RX3 57 yX3_agree ∈ lwG := lwG_of (mt_4 (List.mem_of_getElem? (i := 215) (by decide +kernel))) rfl
theorem w_4_217 : Cond.instanceMethod yX3_agree ∈ lwG := lwG_of (mt_4 (List.mem_of_getElem? (i := 217) (by decide +kernel))) rfl
theorem w_0_39 : Cond.selects RX3 yX3_agree yX3_agree ∈ lwG := lwG_of (mt_0 (List.mem_of_getElem? (i := 39) (by decide +kernel))) rfl
theorem gzX3_57 {a : Cond} : GoodIn (a :: lwG) (wsV RX3 57 RX3 yX3_agree wzX3_agree) := goodG (by
  show ∀ w ∈ (_ :: _), w ∈ lwG
  exact List.forall_mem_cons.mpr ⟨w_4_215, List.forall_mem_cons.mpr ⟨w_4_217, List.forall_mem_cons.mpr ⟨w_0_39, List.forall_mem_cons.mpr ⟨w_1_12, azX3_agree⟩⟩⟩⟩)
theorem w_4_227 : Cond.methodLink RX3 67 yX3_mayJoin ∈ lwG := lwG_of (mt_4 (List.mem_of_getElem? (i := 227) (by decide +kernel))) rfl
theorem w_4_229 : Cond.instanceMethod yX3_mayJoin ∈ lwG := lwG_of (mt_4 (List.mem_of_getElem? (i := 229) (by decide +kernel))) rfl
theorem w_0_41 : Cond.selects RX3 yX3_mayJoin yX3_mayJoin ∈ lwG := lwG_of (mt_0 (List.mem_of_getElem? (i := 41) (by decide +kernel))) rfl
theorem gzX3_67 {a : Cond} : GoodIn (a :: lwG) (wsV RX3 67 RX3 yX3_mayJoin wzX3_mayJoin) := goodG (by
  show ∀ w ∈ (_ :: _), w ∈ lwG
  exact List.forall_mem_cons.mpr ⟨w_4_227, List.forall_mem_cons.mpr ⟨w_4_229, List.forall_mem_cons.mpr ⟨w_0_41, List.forall_mem_cons.mpr ⟨w_1_12, azX3_mayJoin⟩⟩⟩⟩)
theorem w_4_231 : Cond.methodLink RX3 70 yX3_joins ∈ lwG := lwG_of (mt_4 (List.mem_of_getElem? (i := 231) (by decide +kernel))) rfl
theorem w_4_233 : Cond.instanceMethod yX3_joins ∈ lwG := lwG_of (mt_4 (List.mem_of_getElem? (i := 233) (by decide +kernel))) rfl
theorem w_0_42 : Cond.selects RX3 yX3_joins yX3_joins ∈ lwG := lwG_of (mt_0 (List.mem_of_getElem? (i := 42) (by decide +kernel))) rfl
theorem gzX3_70 {a : Cond} : GoodIn (a :: lwG) (wsV RX3 70 RX3 yX3_joins wzX3_joins) := goodG (by
  show ∀ w ∈ (_ :: _), w ∈ lwG
  exact List.forall_mem_cons.mpr ⟨w_4_231, List.forall_mem_cons.mpr ⟨w_4_233, List.forall_mem_cons.mpr ⟨w_0_42, List.forall_mem_cons.mpr ⟨w_1_12, azX3_joins⟩⟩⟩⟩)
theorem w_4_29 : Cond.methodLink RX4 60 yX2_left ∈ lwG := lwG_of (mt_4 (List.mem_of_getElem? (i := 29) (by decide +kernel))) rfl
theorem gzX4_60 {a : Cond} : GoodIn (a :: lwG) (wsV RX4 60 RX2 yX2_left wzX2_left) := goodG (by
  show ∀ w ∈ (_ :: _), w ∈ lwG
  exact List.forall_mem_cons.mpr ⟨w_4_29, List.forall_mem_cons.mpr ⟨w_3_104, List.forall_mem_cons.mpr ⟨w_3_105, List.forall_mem_cons.mpr ⟨w_1_7, azX2_left⟩⟩⟩⟩)
theorem w_4_30 : Cond.methodLink RX4 66 yX8_get ∈ lwG := lwG_of (mt_4 (List.mem_of_getElem? (i := 30) (by decide +kernel))) rfl
theorem gzX4_66 {a : Cond} : GoodIn (a :: lwG) (wsV RX4 66 RX8 yX8_get wzX8_get) := goodG (by
  show ∀ w ∈ (_ :: _), w ∈ lwG
  exact List.forall_mem_cons.mpr ⟨w_4_30, List.forall_mem_cons.mpr ⟨w_2_187, List.forall_mem_cons.mpr ⟨w_2_188, List.forall_mem_cons.mpr ⟨w_1_3, azX8_get⟩⟩⟩⟩)
theorem w_4_31 : Cond.methodLink RX4 70 yX4_book ∈ lwG := lwG_of (mt_4 (List.mem_of_getElem? (i := 31) (by decide +kernel))) rfl
theorem w_4_33 : Cond.instanceMethod yX4_book ∈ lwG := lwG_of (mt_4 (List.mem_of_getElem? (i := 33) (by decide +kernel))) rfl
theorem w_0_26 : Cond.selects RX4 yX4_book yX4_book ∈ lwG := lwG_of (mt_0 (List.mem_of_getElem? (i := 26) (by decide +kernel))) rfl
theorem gzX4_70 {a : Cond} : GoodIn (a :: lwG) (wsV RX4 70 RX4 yX4_book wzX4_book) := goodG (by
  show ∀ w ∈ (_ :: _), w ∈ lwG
  exact List.forall_mem_cons.mpr ⟨w_4_31, List.forall_mem_cons.mpr ⟨w_4_33, List.forall_mem_cons.mpr ⟨w_0_26, List.forall_mem_cons.mpr ⟨w_1_8, azX4_book⟩⟩⟩⟩)
theorem w_4_50 : Cond.methodLink RX4 77 yX4_gatherUneven ∈ lwG := lwG_of (mt_4 (List.mem_of_getElem? (i := 50) (by decide +kernel))) rfl
theorem w_4_52 : Cond.instanceMethod yX4_gatherUneven ∈ lwG := lwG_of (mt_4 (List.mem_of_getElem? (i := 52) (by decide +kernel))) rfl
theorem w_0_27 : Cond.selects RX4 yX4_gatherUneven yX4_gatherUneven ∈ lwG := lwG_of (mt_0 (List.mem_of_getElem? (i := 27) (by decide +kernel))) rfl
theorem gzX4_77 {a : Cond} : GoodIn (a :: lwG) (wsV RX4 77 RX4 yX4_gatherUneven wzX4_gatherUneven) := goodG (by
  show ∀ w ∈ (_ :: _), w ∈ lwG
  exact List.forall_mem_cons.mpr ⟨w_4_50, List.forall_mem_cons.mpr ⟨w_4_52, List.forall_mem_cons.mpr ⟨w_0_27, List.forall_mem_cons.mpr ⟨w_1_8, azX4_gatherUneven⟩⟩⟩⟩)
theorem w_4_54 : Cond.methodLink RX4 81 yX4_weighSet ∈ lwG := lwG_of (mt_4 (List.mem_of_getElem? (i := 54) (by decide +kernel))) rfl
theorem w_4_56 : Cond.instanceMethod yX4_weighSet ∈ lwG := lwG_of (mt_4 (List.mem_of_getElem? (i := 56) (by decide +kernel))) rfl
theorem w_0_28 : Cond.selects RX4 yX4_weighSet yX4_weighSet ∈ lwG := lwG_of (mt_0 (List.mem_of_getElem? (i := 28) (by decide +kernel))) rfl
theorem gzX4_81 {a : Cond} : GoodIn (a :: lwG) (wsV RX4 81 RX4 yX4_weighSet wzX4_weighSet) := goodG (by
  show ∀ w ∈ (_ :: _), w ∈ lwG
  exact List.forall_mem_cons.mpr ⟨w_4_54, List.forall_mem_cons.mpr ⟨w_4_56, List.forall_mem_cons.mpr ⟨w_0_28, List.forall_mem_cons.mpr ⟨w_1_8, azX4_weighSet⟩⟩⟩⟩)
theorem w_4_67 : Cond.methodLink RX4 93 yX4_lengthFrom ∈ lwG := lwG_of (mt_4 (List.mem_of_getElem? (i := 67) (by decide +kernel))) rfl
theorem w_4_69 : Cond.instanceMethod yX4_lengthFrom ∈ lwG := lwG_of (mt_4 (List.mem_of_getElem? (i := 69) (by decide +kernel))) rfl
theorem w_0_29 : Cond.selects RX4 yX4_lengthFrom yX4_lengthFrom ∈ lwG := lwG_of (mt_0 (List.mem_of_getElem? (i := 29) (by decide +kernel))) rfl
theorem gzX4_93 {a : Cond} : GoodIn (a :: lwG) (wsV RX4 93 RX4 yX4_lengthFrom wzX4_lengthFrom) := goodG (by
  show ∀ w ∈ (_ :: _), w ∈ lwG
  exact List.forall_mem_cons.mpr ⟨w_4_67, List.forall_mem_cons.mpr ⟨w_4_69, List.forall_mem_cons.mpr ⟨w_0_29, List.forall_mem_cons.mpr ⟨w_1_8, azX4_lengthFrom⟩⟩⟩⟩)
theorem w_4_85 : Cond.methodLink RX4 97 yX4_follow ∈ lwG := lwG_of (mt_4 (List.mem_of_getElem? (i := 85) (by decide +kernel))) rfl
theorem w_4_87 : Cond.instanceMethod yX4_follow ∈ lwG := lwG_of (mt_4 (List.mem_of_getElem? (i := 87) (by decide +kernel))) rfl
theorem w_0_32 : Cond.selects RX4 yX4_follow yX4_follow ∈ lwG := lwG_of (mt_0 (List.mem_of_getElem? (i := 32) (by decide +kernel))) rfl
theorem gzX4_97 {a : Cond} : GoodIn (a :: lwG) (wsV RX4 97 RX4 yX4_follow wzX4_follow) := goodG (by
  show ∀ w ∈ (_ :: _), w ∈ lwG
  exact List.forall_mem_cons.mpr ⟨w_4_85, List.forall_mem_cons.mpr ⟨w_4_87, List.forall_mem_cons.mpr ⟨w_0_32, List.forall_mem_cons.mpr ⟨w_1_8, azX4_follow⟩⟩⟩⟩)
theorem w_4_74 : Cond.methodLink RX4 103 yX4_isNear ∈ lwG := lwG_of (mt_4 (List.mem_of_getElem? (i := 74) (by decide +kernel))) rfl
theorem w_4_76 : Cond.instanceMethod yX4_isNear ∈ lwG := lwG_of (mt_4 (List.mem_of_getElem? (i := 76) (by decide +kernel))) rfl
theorem w_0_30 : Cond.selects RX4 yX4_isNear yX4_isNear ∈ lwG := lwG_of (mt_0 (List.mem_of_getElem? (i := 30) (by decide +kernel))) rfl
theorem gzX4_103 {a : Cond} : GoodIn (a :: lwG) (wsV RX4 103 RX4 yX4_isNear wzX4_isNear) := goodG (by
  show ∀ w ∈ (_ :: _), w ∈ lwG
  exact List.forall_mem_cons.mpr ⟨w_4_74, List.forall_mem_cons.mpr ⟨w_4_76, List.forall_mem_cons.mpr ⟨w_0_30, List.forall_mem_cons.mpr ⟨w_1_8, azX4_isNear⟩⟩⟩⟩)
theorem w_4_78 : Cond.methodLink RX4 107 yX4_isOwing ∈ lwG := lwG_of (mt_4 (List.mem_of_getElem? (i := 78) (by decide +kernel))) rfl
theorem w_4_80 : Cond.instanceMethod yX4_isOwing ∈ lwG := lwG_of (mt_4 (List.mem_of_getElem? (i := 80) (by decide +kernel))) rfl
theorem w_0_31 : Cond.selects RX4 yX4_isOwing yX4_isOwing ∈ lwG := lwG_of (mt_0 (List.mem_of_getElem? (i := 31) (by decide +kernel))) rfl
theorem gzX4_107 {a : Cond} : GoodIn (a :: lwG) (wsV RX4 107 RX4 yX4_isOwing wzX4_isOwing) := goodG (by
  show ∀ w ∈ (_ :: _), w ∈ lwG
  exact List.forall_mem_cons.mpr ⟨w_4_78, List.forall_mem_cons.mpr ⟨w_4_80, List.forall_mem_cons.mpr ⟨w_0_31, List.forall_mem_cons.mpr ⟨w_1_8, azX4_isOwing⟩⟩⟩⟩)
theorem w_4_89 : Cond.methodLink RX4 114 yX4_firstStep ∈ lwG := lwG_of (mt_4 (List.mem_of_getElem? (i := 89) (by decide +kernel))) rfl
theorem w_4_91 : Cond.instanceMethod yX4_firstStep ∈ lwG := lwG_of (mt_4 (List.mem_of_getElem? (i := 91) (by decide +kernel))) rfl
theorem w_0_33 : Cond.selects RX4 yX4_firstStep yX4_firstStep ∈ lwG := lwG_of (mt_0 (List.mem_of_getElem? (i := 33) (by decide +kernel))) rfl
theorem gzX4_114 {a : Cond} : GoodIn (a :: lwG) (wsV RX4 114 RX4 yX4_firstStep wzX4_firstStep) := goodG (by
  show ∀ w ∈ (_ :: _), w ∈ lwG
  exact List.forall_mem_cons.mpr ⟨w_4_89, List.forall_mem_cons.mpr ⟨w_4_91, List.forall_mem_cons.mpr ⟨w_0_33, List.forall_mem_cons.mpr ⟨w_1_8, azX4_firstStep⟩⟩⟩⟩)
theorem w_5_19 : Cond.methodLink RX5 35 yX8_get ∈ lwG := lwG_of (mt_5 (List.mem_of_getElem? (i := 19) (by decide +kernel))) rfl
theorem gzX5_35 {a : Cond} : GoodIn (a :: lwG) (wsV RX5 35 RX8 yX8_get wzX8_get) := goodG (by
  show ∀ w ∈ (_ :: _), w ∈ lwG
  exact List.forall_mem_cons.mpr ⟨w_5_19, List.forall_mem_cons.mpr ⟨w_2_187, List.forall_mem_cons.mpr ⟨w_2_188, List.forall_mem_cons.mpr ⟨w_1_3, azX8_get⟩⟩⟩⟩)
theorem w_5_20 : Cond.methodLink RX5 39 yX9_leftByGates ∈ lwG := lwG_of (mt_5 (List.mem_of_getElem? (i := 20) (by decide +kernel))) rfl
theorem gzX5_39 {a : Cond} : GoodIn (a :: lwG) (wsV RX5 39 RX9 yX9_leftByGates wzX9_leftByGates) := goodG (by
  show ∀ w ∈ (_ :: _), w ∈ lwG
  exact List.forall_mem_cons.mpr ⟨w_5_20, List.forall_mem_cons.mpr ⟨w_3_198, List.forall_mem_cons.mpr ⟨w_3_199, List.forall_mem_cons.mpr ⟨w_1_9, azX9_leftByGates⟩⟩⟩⟩)
theorem w_5_21 : Cond.methodLink RX5 45 yX5_setSilver ∈ lwG := lwG_of (mt_5 (List.mem_of_getElem? (i := 21) (by decide +kernel))) rfl
theorem w_5_23 : Cond.instanceMethod yX5_setSilver ∈ lwG := lwG_of (mt_5 (List.mem_of_getElem? (i := 23) (by decide +kernel))) rfl
theorem w_0_43 : Cond.selects RX5 yX5_setSilver yX5_setSilver ∈ lwG := lwG_of (mt_0 (List.mem_of_getElem? (i := 43) (by decide +kernel))) rfl
theorem gzX5_45 {a : Cond} : GoodIn (a :: lwG) (wsV RX5 45 RX5 yX5_setSilver wzX5_setSilver) := goodG (by
  show ∀ w ∈ (_ :: _), w ∈ lwG
  exact List.forall_mem_cons.mpr ⟨w_5_21, List.forall_mem_cons.mpr ⟨w_5_23, List.forall_mem_cons.mpr ⟨w_0_43, List.forall_mem_cons.mpr ⟨w_1_13, azX5_setSilver⟩⟩⟩⟩)
theorem w_5_26 : Cond.methodLink RX5 49 yX9_leftByLuck ∈ lwG := lwG_of (mt_5 (List.mem_of_getElem? (i := 26) (by decide +kernel))) rfl
theorem w_5_27 : Cond.instanceMethod yX9_leftByLuck ∈ lwG := lwG_of (mt_5 (List.mem_of_getElem? (i := 27) (by decide +kernel))) rfl
theorem w_5_28 : Cond.selects RX9 yX9_leftByLuck yX9_leftByLuck ∈ lwG := lwG_of (mt_5 (List.mem_of_getElem? (i := 28) (by decide +kernel))) rfl
theorem gzX5_49 {a : Cond} : GoodIn (a :: lwG) (wsV RX5 49 RX9 yX9_leftByLuck wzX9_leftByLuck) := goodG (by
  show ∀ w ∈ (_ :: _), w ∈ lwG
  exact List.forall_mem_cons.mpr ⟨w_5_26, List.forall_mem_cons.mpr ⟨w_5_27, List.forall_mem_cons.mpr ⟨w_5_28, List.forall_mem_cons.mpr ⟨w_1_9, azX9_leftByLuck⟩⟩⟩⟩)
theorem w_5_34 : Cond.methodLink RX5 61 yX5_worstOf ∈ lwG := lwG_of (mt_5 (List.mem_of_getElem? (i := 34) (by decide +kernel))) rfl
theorem w_5_36 : Cond.instanceMethod yX5_worstOf ∈ lwG := lwG_of (mt_5 (List.mem_of_getElem? (i := 36) (by decide +kernel))) rfl
theorem w_0_44 : Cond.selects RX5 yX5_worstOf yX5_worstOf ∈ lwG := lwG_of (mt_0 (List.mem_of_getElem? (i := 44) (by decide +kernel))) rfl
theorem gzX5_61 {a : Cond} : GoodIn (a :: lwG) (wsV RX5 61 RX5 yX5_worstOf wzX5_worstOf) := goodG (by
  show ∀ w ∈ (_ :: _), w ∈ lwG
  exact List.forall_mem_cons.mpr ⟨w_5_34, List.forall_mem_cons.mpr ⟨w_5_36, List.forall_mem_cons.mpr ⟨w_0_44, List.forall_mem_cons.mpr ⟨w_1_13, azX5_worstOf⟩⟩⟩⟩)
theorem w_5_38 : Cond.methodLink RX5 69 yX5_silverOf ∈ lwG := lwG_of (mt_5 (List.mem_of_getElem? (i := 38) (by decide +kernel))) rfl
theorem w_5_40 : Cond.instanceMethod yX5_silverOf ∈ lwG := lwG_of (mt_5 (List.mem_of_getElem? (i := 40) (by decide +kernel))) rfl
theorem w_0_45 : Cond.selects RX5 yX5_silverOf yX5_silverOf ∈ lwG := lwG_of (mt_0 (List.mem_of_getElem? (i := 45) (by decide +kernel))) rfl
theorem gzX5_69 {a : Cond} : GoodIn (a :: lwG) (wsV RX5 69 RX5 yX5_silverOf wzX5_silverOf) := goodG (by
  show ∀ w ∈ (_ :: _), w ∈ lwG
  exact List.forall_mem_cons.mpr ⟨w_5_38, List.forall_mem_cons.mpr ⟨w_5_40, List.forall_mem_cons.mpr ⟨w_0_45, List.forall_mem_cons.mpr ⟨w_1_13, azX5_silverOf⟩⟩⟩⟩)
theorem w_4_179 : Cond.methodLink RX6 37 yX8_get ∈ lwG := lwG_of (mt_4 (List.mem_of_getElem? (i := 179) (by decide +kernel))) rfl
theorem gzX6_37 {a : Cond} : GoodIn (a :: lwG) (wsV RX6 37 RX8 yX8_get wzX8_get) := goodG (by
  show ∀ w ∈ (_ :: _), w ∈ lwG
  exact List.forall_mem_cons.mpr ⟨w_4_179, List.forall_mem_cons.mpr ⟨w_2_187, List.forall_mem_cons.mpr ⟨w_2_188, List.forall_mem_cons.mpr ⟨w_1_3, azX8_get⟩⟩⟩⟩)
theorem w_4_180 : Cond.methodLink RX6 41 yX6_knownTo ∈ lwG := lwG_of (mt_4 (List.mem_of_getElem? (i := 180) (by decide +kernel))) rfl
theorem gzX6_41 {a : Cond} : GoodIn (a :: lwG) (wsV RX6 41 RX6 yX6_knownTo wzX6_knownTo) := goodG (by
  show ∀ w ∈ (_ :: _), w ∈ lwG
  exact List.forall_mem_cons.mpr ⟨w_4_180, List.forall_mem_cons.mpr ⟨w_4_181, List.forall_mem_cons.mpr ⟨w_4_182, List.forall_mem_cons.mpr ⟨w_1_11, azX6_knownTo⟩⟩⟩⟩)
theorem w_4_184 : Cond.methodLink RX6 44 yX6_carriedBy ∈ lwG := lwG_of (mt_4 (List.mem_of_getElem? (i := 184) (by decide +kernel))) rfl
theorem gzX6_44 {a : Cond} : GoodIn (a :: lwG) (wsV RX6 44 RX6 yX6_carriedBy wzX6_carriedBy) := goodG (by
  show ∀ w ∈ (_ :: _), w ∈ lwG
  exact List.forall_mem_cons.mpr ⟨w_4_184, List.forall_mem_cons.mpr ⟨w_4_185, List.forall_mem_cons.mpr ⟨w_4_186, List.forall_mem_cons.mpr ⟨w_1_11, azX6_carriedBy⟩⟩⟩⟩)
theorem w_2_203 : Cond.methodLink RX7 38 yX8_get ∈ lwG := lwG_of (mt_2 (List.mem_of_getElem? (i := 203) (by decide +kernel))) rfl
theorem gzX7_38 {a : Cond} : GoodIn (a :: lwG) (wsV RX7 38 RX8 yX8_get wzX8_get) := goodG (by
  show ∀ w ∈ (_ :: _), w ∈ lwG
  exact List.forall_mem_cons.mpr ⟨w_2_203, List.forall_mem_cons.mpr ⟨w_2_187, List.forall_mem_cons.mpr ⟨w_2_188, List.forall_mem_cons.mpr ⟨w_1_3, azX8_get⟩⟩⟩⟩)
theorem w_2_204 : Cond.methodLink RX7 44 yX7_take ∈ lwG := lwG_of (mt_2 (List.mem_of_getElem? (i := 204) (by decide +kernel))) rfl
theorem w_2_206 : Cond.instanceMethod yX7_take ∈ lwG := lwG_of (mt_2 (List.mem_of_getElem? (i := 206) (by decide +kernel))) rfl
theorem w_0_0 : Cond.selects RX7 yX7_take yX7_take ∈ lwG := lwG_of (mt_0 (List.mem_of_getElem? (i := 0) (by decide +kernel))) rfl
theorem gzX7_44 {a : Cond} : GoodIn (a :: lwG) (wsV RX7 44 RX7 yX7_take wzX7_take) := goodG (by
  show ∀ w ∈ (_ :: _), w ∈ lwG
  exact List.forall_mem_cons.mpr ⟨w_2_204, List.forall_mem_cons.mpr ⟨w_2_206, List.forall_mem_cons.mpr ⟨w_0_0, List.forall_mem_cons.mpr ⟨w_1_5, azX7_take⟩⟩⟩⟩)
theorem w_3_19 : Cond.methodLink RX7 48 yX7_end ∈ lwG := lwG_of (mt_3 (List.mem_of_getElem? (i := 19) (by decide +kernel))) rfl
theorem w_3_21 : Cond.instanceMethod yX7_end ∈ lwG := lwG_of (mt_3 (List.mem_of_getElem? (i := 21) (by decide +kernel))) rfl
theorem w_0_13 : Cond.selects RX7 yX7_end yX7_end ∈ lwG := lwG_of (mt_0 (List.mem_of_getElem? (i := 13) (by decide +kernel))) rfl
theorem gzX7_48 {a : Cond} : GoodIn (a :: lwG) (wsV RX7 48 RX7 yX7_end wzX7_end) := goodG (by
  show ∀ w ∈ (_ :: _), w ∈ lwG
  exact List.forall_mem_cons.mpr ⟨w_3_19, List.forall_mem_cons.mpr ⟨w_3_21, List.forall_mem_cons.mpr ⟨w_0_13, List.forall_mem_cons.mpr ⟨w_1_5, azX7_end⟩⟩⟩⟩)
theorem w_2_208 : Cond.methodLink RX7 52 yX7_takeDigit ∈ lwG := lwG_of (mt_2 (List.mem_of_getElem? (i := 208) (by decide +kernel))) rfl
theorem w_2_210 : Cond.instanceMethod yX7_takeDigit ∈ lwG := lwG_of (mt_2 (List.mem_of_getElem? (i := 210) (by decide +kernel))) rfl
theorem w_0_1 : Cond.selects RX7 yX7_takeDigit yX7_takeDigit ∈ lwG := lwG_of (mt_0 (List.mem_of_getElem? (i := 1) (by decide +kernel))) rfl
theorem gzX7_52 {a : Cond} : GoodIn (a :: lwG) (wsV RX7 52 RX7 yX7_takeDigit wzX7_takeDigit) := goodG (by
  show ∀ w ∈ (_ :: _), w ∈ lwG
  exact List.forall_mem_cons.mpr ⟨w_2_208, List.forall_mem_cons.mpr ⟨w_2_210, List.forall_mem_cons.mpr ⟨w_0_1, List.forall_mem_cons.mpr ⟨w_1_5, azX7_takeDigit⟩⟩⟩⟩)
theorem w_2_212 : Cond.methodLink RX7 55 yX7_endNumber ∈ lwG := lwG_of (mt_2 (List.mem_of_getElem? (i := 212) (by decide +kernel))) rfl
theorem w_2_214 : Cond.instanceMethod yX7_endNumber ∈ lwG := lwG_of (mt_2 (List.mem_of_getElem? (i := 214) (by decide +kernel))) rfl
theorem w_0_2 : Cond.selects RX7 yX7_endNumber yX7_endNumber ∈ lwG := lwG_of (mt_0 (List.mem_of_getElem? (i := 2) (by decide +kernel))) rfl
theorem gzX7_55 {a : Cond} : GoodIn (a :: lwG) (wsV RX7 55 RX7 yX7_endNumber wzX7_endNumber) := goodG (by
  show ∀ w ∈ (_ :: _), w ∈ lwG
  exact List.forall_mem_cons.mpr ⟨w_2_212, List.forall_mem_cons.mpr ⟨w_2_214, List.forall_mem_cons.mpr ⟨w_0_2, List.forall_mem_cons.mpr ⟨w_1_5, azX7_endNumber⟩⟩⟩⟩)
theorem w_2_220 : Cond.methodLink RX7 58 yX7_takeUnit ∈ lwG := lwG_of (mt_2 (List.mem_of_getElem? (i := 220) (by decide +kernel))) rfl
theorem w_2_222 : Cond.instanceMethod yX7_takeUnit ∈ lwG := lwG_of (mt_2 (List.mem_of_getElem? (i := 222) (by decide +kernel))) rfl
theorem w_0_4 : Cond.selects RX7 yX7_takeUnit yX7_takeUnit ∈ lwG := lwG_of (mt_0 (List.mem_of_getElem? (i := 4) (by decide +kernel))) rfl
theorem gzX7_58 {a : Cond} : GoodIn (a :: lwG) (wsV RX7 58 RX7 yX7_takeUnit wzX7_takeUnit) := goodG (by
  show ∀ w ∈ (_ :: _), w ∈ lwG
  exact List.forall_mem_cons.mpr ⟨w_2_220, List.forall_mem_cons.mpr ⟨w_2_222, List.forall_mem_cons.mpr ⟨w_0_4, List.forall_mem_cons.mpr ⟨w_1_5, azX7_takeUnit⟩⟩⟩⟩)
theorem w_2_232 : Cond.methodLink RX7 61 yX7_takeJoint ∈ lwG := lwG_of (mt_2 (List.mem_of_getElem? (i := 232) (by decide +kernel))) rfl
theorem w_2_234 : Cond.instanceMethod yX7_takeJoint ∈ lwG := lwG_of (mt_2 (List.mem_of_getElem? (i := 234) (by decide +kernel))) rfl
theorem w_0_7 : Cond.selects RX7 yX7_takeJoint yX7_takeJoint ∈ lwG := lwG_of (mt_0 (List.mem_of_getElem? (i := 7) (by decide +kernel))) rfl
theorem gzX7_61 {a : Cond} : GoodIn (a :: lwG) (wsV RX7 61 RX7 yX7_takeJoint wzX7_takeJoint) := goodG (by
  show ∀ w ∈ (_ :: _), w ∈ lwG
  exact List.forall_mem_cons.mpr ⟨w_2_232, List.forall_mem_cons.mpr ⟨w_2_234, List.forall_mem_cons.mpr ⟨w_0_7, List.forall_mem_cons.mpr ⟨w_1_5, azX7_takeJoint⟩⟩⟩⟩)
theorem w_2_216 : Cond.methodLink RX7 70 yX7_put ∈ lwG := lwG_of (mt_2 (List.mem_of_getElem? (i := 216) (by decide +kernel))) rfl
theorem w_2_218 : Cond.instanceMethod yX7_put ∈ lwG := lwG_of (mt_2 (List.mem_of_getElem? (i := 218) (by decide +kernel))) rfl
theorem w_0_3 : Cond.selects RX7 yX7_put yX7_put ∈ lwG := lwG_of (mt_0 (List.mem_of_getElem? (i := 3) (by decide +kernel))) rfl
theorem gzX7_70 {a : Cond} : GoodIn (a :: lwG) (wsV RX7 70 RX7 yX7_put wzX7_put) := goodG (by
  show ∀ w ∈ (_ :: _), w ∈ lwG
  exact List.forall_mem_cons.mpr ⟨w_2_216, List.forall_mem_cons.mpr ⟨w_2_218, List.forall_mem_cons.mpr ⟨w_0_3, List.forall_mem_cons.mpr ⟨w_1_5, azX7_put⟩⟩⟩⟩)
theorem w_2_224 : Cond.methodLink RX7 73 yX7_push ∈ lwG := lwG_of (mt_2 (List.mem_of_getElem? (i := 224) (by decide +kernel))) rfl
theorem w_2_226 : Cond.instanceMethod yX7_push ∈ lwG := lwG_of (mt_2 (List.mem_of_getElem? (i := 226) (by decide +kernel))) rfl
theorem w_0_5 : Cond.selects RX7 yX7_push yX7_push ∈ lwG := lwG_of (mt_0 (List.mem_of_getElem? (i := 5) (by decide +kernel))) rfl
theorem gzX7_73 {a : Cond} : GoodIn (a :: lwG) (wsV RX7 73 RX7 yX7_push wzX7_push) := goodG (by
  show ∀ w ∈ (_ :: _), w ∈ lwG
  exact List.forall_mem_cons.mpr ⟨w_2_224, List.forall_mem_cons.mpr ⟨w_2_226, List.forall_mem_cons.mpr ⟨w_0_5, List.forall_mem_cons.mpr ⟨w_1_5, azX7_push⟩⟩⟩⟩)
theorem w_2_228 : Cond.methodLink RX7 76 yX7_openOne ∈ lwG := lwG_of (mt_2 (List.mem_of_getElem? (i := 228) (by decide +kernel))) rfl
theorem w_2_230 : Cond.instanceMethod yX7_openOne ∈ lwG := lwG_of (mt_2 (List.mem_of_getElem? (i := 230) (by decide +kernel))) rfl
theorem w_0_6 : Cond.selects RX7 yX7_openOne yX7_openOne ∈ lwG := lwG_of (mt_0 (List.mem_of_getElem? (i := 6) (by decide +kernel))) rfl
theorem gzX7_76 {a : Cond} : GoodIn (a :: lwG) (wsV RX7 76 RX7 yX7_openOne wzX7_openOne) := goodG (by
  show ∀ w ∈ (_ :: _), w ∈ lwG
  exact List.forall_mem_cons.mpr ⟨w_2_228, List.forall_mem_cons.mpr ⟨w_2_230, List.forall_mem_cons.mpr ⟨w_0_6, List.forall_mem_cons.mpr ⟨w_1_5, azX7_openOne⟩⟩⟩⟩)
theorem w_2_236 : Cond.methodLink RX7 79 yX7_closeOne ∈ lwG := lwG_of (mt_2 (List.mem_of_getElem? (i := 236) (by decide +kernel))) rfl
theorem w_2_238 : Cond.instanceMethod yX7_closeOne ∈ lwG := lwG_of (mt_2 (List.mem_of_getElem? (i := 238) (by decide +kernel))) rfl
theorem w_0_8 : Cond.selects RX7 yX7_closeOne yX7_closeOne ∈ lwG := lwG_of (mt_0 (List.mem_of_getElem? (i := 8) (by decide +kernel))) rfl
theorem gzX7_79 {a : Cond} : GoodIn (a :: lwG) (wsV RX7 79 RX7 yX7_closeOne wzX7_closeOne) := goodG (by
  show ∀ w ∈ (_ :: _), w ∈ lwG
  exact List.forall_mem_cons.mpr ⟨w_2_236, List.forall_mem_cons.mpr ⟨w_2_238, List.forall_mem_cons.mpr ⟨w_0_8, List.forall_mem_cons.mpr ⟨w_1_5, azX7_closeOne⟩⟩⟩⟩)
theorem w_3_11 : Cond.methodLink RX7 82 yX7_turn ∈ lwG := lwG_of (mt_3 (List.mem_of_getElem? (i := 11) (by decide +kernel))) rfl
theorem w_3_13 : Cond.instanceMethod yX7_turn ∈ lwG := lwG_of (mt_3 (List.mem_of_getElem? (i := 13) (by decide +kernel))) rfl
theorem w_0_11 : Cond.selects RX7 yX7_turn yX7_turn ∈ lwG := lwG_of (mt_0 (List.mem_of_getElem? (i := 11) (by decide +kernel))) rfl
theorem gzX7_82 {a : Cond} : GoodIn (a :: lwG) (wsV RX7 82 RX7 yX7_turn wzX7_turn) := goodG (by
  show ∀ w ∈ (_ :: _), w ∈ lwG
  exact List.forall_mem_cons.mpr ⟨w_3_11, List.forall_mem_cons.mpr ⟨w_3_13, List.forall_mem_cons.mpr ⟨w_0_11, List.forall_mem_cons.mpr ⟨w_1_5, azX7_turn⟩⟩⟩⟩)
theorem w_3_0 : Cond.methodLink RX7 85 yX7_release ∈ lwG := lwG_of (mt_3 (List.mem_of_getElem? (i := 0) (by decide +kernel))) rfl
theorem w_3_2 : Cond.instanceMethod yX7_release ∈ lwG := lwG_of (mt_3 (List.mem_of_getElem? (i := 2) (by decide +kernel))) rfl
theorem w_0_9 : Cond.selects RX7 yX7_release yX7_release ∈ lwG := lwG_of (mt_0 (List.mem_of_getElem? (i := 9) (by decide +kernel))) rfl
theorem gzX7_85 {a : Cond} : GoodIn (a :: lwG) (wsV RX7 85 RX7 yX7_release wzX7_release) := goodG (by
  show ∀ w ∈ (_ :: _), w ∈ lwG
  exact List.forall_mem_cons.mpr ⟨w_3_0, List.forall_mem_cons.mpr ⟨w_3_2, List.forall_mem_cons.mpr ⟨w_0_9, List.forall_mem_cons.mpr ⟨w_1_5, azX7_release⟩⟩⟩⟩)
theorem w_3_15 : Cond.methodLink RX7 88 yX7_join ∈ lwG := lwG_of (mt_3 (List.mem_of_getElem? (i := 15) (by decide +kernel))) rfl
theorem w_3_17 : Cond.instanceMethod yX7_join ∈ lwG := lwG_of (mt_3 (List.mem_of_getElem? (i := 17) (by decide +kernel))) rfl
theorem w_0_12 : Cond.selects RX7 yX7_join yX7_join ∈ lwG := lwG_of (mt_0 (List.mem_of_getElem? (i := 12) (by decide +kernel))) rfl
theorem gzX7_88 {a : Cond} : GoodIn (a :: lwG) (wsV RX7 88 RX7 yX7_join wzX7_join) := goodG (by
  show ∀ w ∈ (_ :: _), w ∈ lwG
  exact List.forall_mem_cons.mpr ⟨w_3_15, List.forall_mem_cons.mpr ⟨w_3_17, List.forall_mem_cons.mpr ⟨w_0_12, List.forall_mem_cons.mpr ⟨w_1_5, azX7_join⟩⟩⟩⟩)
theorem w_3_4 : Cond.methodLink RX7 91 yX7_top ∈ lwG := lwG_of (mt_3 (List.mem_of_getElem? (i := 4) (by decide +kernel))) rfl
theorem w_3_6 : Cond.instanceMethod yX7_top ∈ lwG := lwG_of (mt_3 (List.mem_of_getElem? (i := 6) (by decide +kernel))) rfl
theorem w_0_10 : Cond.selects RX7 yX7_top yX7_top ∈ lwG := lwG_of (mt_0 (List.mem_of_getElem? (i := 10) (by decide +kernel))) rfl
theorem gzX7_91 {a : Cond} : GoodIn (a :: lwG) (wsV RX7 91 RX7 yX7_top wzX7_top) := goodG (by
  show ∀ w ∈ (_ :: _), w ∈ lwG
  exact List.forall_mem_cons.mpr ⟨w_3_4, List.forall_mem_cons.mpr ⟨w_3_6, List.forall_mem_cons.mpr ⟨w_0_10, List.forall_mem_cons.mpr ⟨w_1_5, azX7_top⟩⟩⟩⟩)
theorem w_1_78 : Cond.methodLink RX8 31 yX8_placeOf ∈ lwG := lwG_of (mt_1 (List.mem_of_getElem? (i := 78) (by decide +kernel))) rfl
theorem gzX8_31 {a : Cond} : GoodIn (a :: lwG) (wsV RX8 31 RX8 yX8_placeOf wzX8_placeOf) := goodG (by
  show ∀ w ∈ (_ :: _), w ∈ lwG
  exact List.forall_mem_cons.mpr ⟨w_1_78, List.forall_mem_cons.mpr ⟨w_1_79, List.forall_mem_cons.mpr ⟨w_1_80, List.forall_mem_cons.mpr ⟨w_1_3, azX8_placeOf⟩⟩⟩⟩)
theorem w_1_70 : Cond.methodLink RX8 34 yX8_isFull ∈ lwG := lwG_of (mt_1 (List.mem_of_getElem? (i := 70) (by decide +kernel))) rfl
theorem gzX8_34 {a : Cond} : GoodIn (a :: lwG) (wsV RX8 34 RX8 yX8_isFull wzX8_isFull) := goodG (by
  show ∀ w ∈ (_ :: _), w ∈ lwG
  exact List.forall_mem_cons.mpr ⟨w_1_70, List.forall_mem_cons.mpr ⟨w_1_71, List.forall_mem_cons.mpr ⟨w_1_72, List.forall_mem_cons.mpr ⟨w_1_3, azX8_isFull⟩⟩⟩⟩)
theorem w_1_74 : Cond.methodLink RX8 38 yX8_set ∈ lwG := lwG_of (mt_1 (List.mem_of_getElem? (i := 74) (by decide +kernel))) rfl
theorem gzX8_38 {a : Cond} : GoodIn (a :: lwG) (wsV RX8 38 RX8 yX8_set wzX8_set) := goodG (by
  show ∀ w ∈ (_ :: _), w ∈ lwG
  exact List.forall_mem_cons.mpr ⟨w_1_74, List.forall_mem_cons.mpr ⟨w_1_75, List.forall_mem_cons.mpr ⟨w_1_76, List.forall_mem_cons.mpr ⟨w_1_3, azX8_set⟩⟩⟩⟩)
theorem w_5_94 : Cond.methodLink RX8 51 yX8_mixRow ∈ lwG := lwG_of (mt_5 (List.mem_of_getElem? (i := 94) (by decide +kernel))) rfl
theorem w_5_95 : Cond.instanceMethod yX8_mixRow ∈ lwG := lwG_of (mt_5 (List.mem_of_getElem? (i := 95) (by decide +kernel))) rfl
theorem w_5_96 : Cond.selects RX8 yX8_mixRow yX8_mixRow ∈ lwG := lwG_of (mt_5 (List.mem_of_getElem? (i := 96) (by decide +kernel))) rfl
theorem gzX8_51 {a : Cond} : GoodIn (a :: lwG) (wsV RX8 51 RX8 yX8_mixRow wzX8_mixRow) := goodG (by
  show ∀ w ∈ (_ :: _), w ∈ lwG
  exact List.forall_mem_cons.mpr ⟨w_5_94, List.forall_mem_cons.mpr ⟨w_5_95, List.forall_mem_cons.mpr ⟨w_5_96, List.forall_mem_cons.mpr ⟨w_1_3, azX8_mixRow⟩⟩⟩⟩)
theorem w_5_99 : Cond.methodLink RX8 55 yX8_get ∈ lwG := lwG_of (mt_5 (List.mem_of_getElem? (i := 99) (by decide +kernel))) rfl
theorem gzX8_55 {a : Cond} : GoodIn (a :: lwG) (wsV RX8 55 RX8 yX8_get wzX8_get) := goodG (by
  show ∀ w ∈ (_ :: _), w ∈ lwG
  exact List.forall_mem_cons.mpr ⟨w_5_99, List.forall_mem_cons.mpr ⟨w_2_187, List.forall_mem_cons.mpr ⟨w_2_188, List.forall_mem_cons.mpr ⟨w_1_3, azX8_get⟩⟩⟩⟩)
theorem w_3_201 : Cond.methodLink RX9 25 yX8_get ∈ lwG := lwG_of (mt_3 (List.mem_of_getElem? (i := 201) (by decide +kernel))) rfl
theorem gzX9_25 {a : Cond} : GoodIn (a :: lwG) (wsV RX9 25 RX8 yX8_get wzX8_get) := goodG (by
  show ∀ w ∈ (_ :: _), w ∈ lwG
  exact List.forall_mem_cons.mpr ⟨w_3_201, List.forall_mem_cons.mpr ⟨w_2_187, List.forall_mem_cons.mpr ⟨w_2_188, List.forall_mem_cons.mpr ⟨w_1_3, azX8_get⟩⟩⟩⟩)
theorem w_3_202 : Cond.methodLink RX9 38 yX1_said ∈ lwG := lwG_of (mt_3 (List.mem_of_getElem? (i := 202) (by decide +kernel))) rfl
theorem gzX9_38 {a : Cond} : GoodIn (a :: lwG) (wsV RX9 38 RX1 yX1_said wzX1_said) := goodG (by
  show ∀ w ∈ (_ :: _), w ∈ lwG
  exact List.forall_mem_cons.mpr ⟨w_3_202, List.forall_mem_cons.mpr ⟨w_3_129, List.forall_mem_cons.mpr ⟨w_3_130, List.forall_mem_cons.mpr ⟨w_1_6, azX1_said⟩⟩⟩⟩)
theorem w_3_239 : Cond.methodLink RX9 52 yX9_lowerOf ∈ lwG := lwG_of (mt_3 (List.mem_of_getElem? (i := 239) (by decide +kernel))) rfl
theorem gzX9_52 {a : Cond} : GoodIn (a :: lwG) (wsV RX9 52 RX9 yX9_lowerOf wzX9_lowerOf) := goodG (by
  show ∀ w ∈ (_ :: _), w ∈ lwG
  exact List.forall_mem_cons.mpr ⟨w_3_239, List.forall_mem_cons.mpr ⟨w_4_0, List.forall_mem_cons.mpr ⟨w_4_1, List.forall_mem_cons.mpr ⟨w_1_9, azX9_lowerOf⟩⟩⟩⟩)
theorem w_4_3 : Cond.methodLink RX9 56 yX9_isAbove ∈ lwG := lwG_of (mt_4 (List.mem_of_getElem? (i := 3) (by decide +kernel))) rfl
theorem w_4_5 : Cond.instanceMethod yX9_isAbove ∈ lwG := lwG_of (mt_4 (List.mem_of_getElem? (i := 5) (by decide +kernel))) rfl
theorem w_0_25 : Cond.selects RX9 yX9_isAbove yX9_isAbove ∈ lwG := lwG_of (mt_0 (List.mem_of_getElem? (i := 25) (by decide +kernel))) rfl
theorem gzX9_56 {a : Cond} : GoodIn (a :: lwG) (wsV RX9 56 RX9 yX9_isAbove wzX9_isAbove) := goodG (by
  show ∀ w ∈ (_ :: _), w ∈ lwG
  exact List.forall_mem_cons.mpr ⟨w_4_3, List.forall_mem_cons.mpr ⟨w_4_5, List.forall_mem_cons.mpr ⟨w_0_25, List.forall_mem_cons.mpr ⟨w_1_9, azX9_isAbove⟩⟩⟩⟩)
theorem w_4_11 : Cond.methodLink RX9 60 yX9_upperOf ∈ lwG := lwG_of (mt_4 (List.mem_of_getElem? (i := 11) (by decide +kernel))) rfl
theorem gzX9_60 {a : Cond} : GoodIn (a :: lwG) (wsV RX9 60 RX9 yX9_upperOf wzX9_upperOf) := goodG (by
  show ∀ w ∈ (_ :: _), w ∈ lwG
  exact List.forall_mem_cons.mpr ⟨w_4_11, List.forall_mem_cons.mpr ⟨w_4_12, List.forall_mem_cons.mpr ⟨w_4_13, List.forall_mem_cons.mpr ⟨w_1_9, azX9_upperOf⟩⟩⟩⟩)
theorem w_3_235 : Cond.methodLink RX9 63 yX9_highestLower ∈ lwG := lwG_of (mt_3 (List.mem_of_getElem? (i := 235) (by decide +kernel))) rfl
theorem gzX9_63 {a : Cond} : GoodIn (a :: lwG) (wsV RX9 63 RX9 yX9_highestLower wzX9_highestLower) := goodG (by
  show ∀ w ∈ (_ :: _), w ∈ lwG
  exact List.forall_mem_cons.mpr ⟨w_3_235, List.forall_mem_cons.mpr ⟨w_3_236, List.forall_mem_cons.mpr ⟨w_3_237, List.forall_mem_cons.mpr ⟨w_1_9, azX9_highestLower⟩⟩⟩⟩)
theorem w_4_7 : Cond.methodLink RX9 67 yX9_lowestUpper ∈ lwG := lwG_of (mt_4 (List.mem_of_getElem? (i := 7) (by decide +kernel))) rfl
theorem gzX9_67 {a : Cond} : GoodIn (a :: lwG) (wsV RX9 67 RX9 yX9_lowestUpper wzX9_lowestUpper) := goodG (by
  show ∀ w ∈ (_ :: _), w ∈ lwG
  exact List.forall_mem_cons.mpr ⟨w_4_7, List.forall_mem_cons.mpr ⟨w_4_8, List.forall_mem_cons.mpr ⟨w_4_9, List.forall_mem_cons.mpr ⟨w_1_9, azX9_lowestUpper⟩⟩⟩⟩)
theorem w_1_39 : Cond.static Lib.Math.max.name ∈ lwG := lwG_of (mt_1 (List.mem_of_getElem? (i := 39) (by decide +kernel))) rfl
theorem ms_max {a : Cond} : Cond.static Lib.Math.max.name ∈ a :: lwG := List.mem_cons_of_mem _ w_1_39
theorem mc_max {a : Cond} : Cond.code Lib.Math.max.name Lib.Math.max.code 2 (some .int) ∈ a :: lwG := List.mem_cons_of_mem _ w_1_40
theorem w_4_83 : Cond.static Lib.Math.min.name ∈ lwG := lwG_of (mt_4 (List.mem_of_getElem? (i := 83) (by decide +kernel))) rfl
theorem ms_min {a : Cond} : Cond.static Lib.Math.min.name ∈ a :: lwG := List.mem_cons_of_mem _ w_4_83
theorem mc_min {a : Cond} : Cond.code Lib.Math.min.name Lib.Math.min.code 2 (some .int) ∈ a :: lwG := List.mem_cons_of_mem _ w_4_84
theorem w_4_220 : Cond.static Lib.Math.abs.name ∈ lwG := lwG_of (mt_4 (List.mem_of_getElem? (i := 220) (by decide +kernel))) rfl
theorem ms_abs {a : Cond} : Cond.static Lib.Math.abs.name ∈ a :: lwG := List.mem_cons_of_mem _ w_4_220
theorem mc_abs {a : Cond} : Cond.code Lib.Math.abs.name Lib.Math.abs.code 1 (some .int) ∈ a :: lwG := List.mem_cons_of_mem _ w_4_221
theorem w_3_142 : Cond.static Lib.MathLoose.max_long.x ∈ lwG := lwG_of (mt_3 (List.mem_of_getElem? (i := 142) (by decide +kernel))) rfl
theorem ms_max_long {a : Cond} : Cond.static Lib.MathLoose.max_long.x ∈ a :: lwG := List.mem_cons_of_mem _ w_3_142
theorem mc_max_long {a : Cond} : Cond.code Lib.MathLoose.max_long.x Lib.MathLoose.max_long.code 4 (some .long) ∈ a :: lwG := List.mem_cons_of_mem _ w_3_143
theorem w_3_126 : Cond.static Lib.MathLoose.min_long.x ∈ lwG := lwG_of (mt_3 (List.mem_of_getElem? (i := 126) (by decide +kernel))) rfl
theorem ms_min_long {a : Cond} : Cond.static Lib.MathLoose.min_long.x ∈ a :: lwG := List.mem_cons_of_mem _ w_3_126
theorem mc_min_long {a : Cond} : Cond.code Lib.MathLoose.min_long.x Lib.MathLoose.min_long.code 4 (some .long) ∈ a :: lwG := List.mem_cons_of_mem _ w_3_127
theorem w_1_4 : Cond.initialized "java/lang/Math" ∈ lwG := lwG_of (mt_1 (List.mem_of_getElem? (i := 4) (by decide +kernel))) rfl
theorem mi_Math {a : Cond} : Cond.initialized "java/lang/Math" ∈ a :: lwG := List.mem_cons_of_mem _ w_1_4
theorem w_1_17 : Cond.initialized "java/lang/System" ∈ lwG := lwG_of (mt_1 (List.mem_of_getElem? (i := 17) (by decide +kernel))) rfl
theorem mi_System {a : Cond} : Cond.initialized "java/lang/System" ∈ a :: lwG := List.mem_cons_of_mem _ w_1_17
theorem w_5_67 : Cond.native arraycopyName ∈ lwG := lwG_of (mt_5 (List.mem_of_getElem? (i := 67) (by decide +kernel))) rfl
theorem mn_copy {a : Cond} : Cond.native arraycopyName ∈ a :: lwG := List.mem_cons_of_mem _ w_5_67
theorem w_5_66 : Cond.static arraycopyName ∈ lwG := lwG_of (mt_5 (List.mem_of_getElem? (i := 66) (by decide +kernel))) rfl
theorem ms_copy {a : Cond} : Cond.static arraycopyName ∈ a :: lwG := List.mem_cons_of_mem _ w_5_66
