/-! THE LAW 1: the world of both sides -/
def WL (cI cJ cZ cH : ClassId) (ad : Nat → Nat) (tc : Nat → Nat → Int32) (tr : Nat → Int32) (nar nam : Int32) (st : Nat → Int32) (x_above : Int64) (x_below : Int64) (x_reader_codes : Nat → Int32) (x_reader_count : Int32) (x_reader_digits : Int32) (x_reader_fault : Int32) (x_reader_firstDigit : Int32) (x_reader_number : Int32) (x_reader_open : Int32) (x_reader_unitIsDue : Int32) (x_reader_waiting : Nat → Int32) (x_reader_waits : Int32) (x_law_about : Int64) (x_law_gate : Int32) (x_law_height : Int32) (x_law_kin : Int32) (x_law_season : Int32) (x_law_stack : Nat → Int64) (x_law_town : Int32) (x_ledger_paid : Nat → Int64) (x_nets_balances : Nat → Int64) (x_nets_pairs : Nat → Int64) (x_nets_sets : Nat → Int32) (x_nets_sums : Nat → Int64) (x_nets_uneven : Nat → Int64) (x_nets_ring : Nat → Int32) (x_nets_steps : Nat → Int32) (x_years_ahead : Nat → Int32) (x_years_found : Nat → Int32) (x_years_row : Nat → Int32) (x_post_carried : Nat → Int32) (x_persons_alike : Nat → Int32) (x_persons_least : Nat → Int32) (x_persons_members : Nat → Int32) (x_planner_best : Int64) (x_planner_bestPlan : Int32) (x_planner_silver : Nat → Int64) (w_above : Int64) (w_below : Int64) (w_steps : Int32) (w_waiting : Int32) (w_step : Nat → Int32) (w_with : Nat → Int32) (w_waits : Nat → Int32) (w_given : Nat → Int64) (w_value : Nat → Int64) (w_most : Nat → Int32) (w_net : Nat → Int64) (w_together : Nat → Int64) (w_owes : Nat → Int32) (w_can : Nat → Int32) (w_row : Nat → Int32) (w_before : Nat → Int32) (w_on : Nat → Int64) (w_to : Nat → Int64) (w_load : Nat → Int32) (w_lead : Nat → Int32) (w_bestLead : Nat → Int32) (w_silver : Nat → Int64) (w_images : Nat → Int32) (w_isKept : Nat → Int32) (x_images : Nat → Option Nat) : va_W :=
  ((ad 0), .inr (11, [.ref (ad 1), .ref (ad 56), .ref (ad 6), .ref (ad 9), .ref (ad 17), .ref (ad 26), .ref (ad 23), .ref (ad 36), .ref (ad 42), .ref (ad 46), .ref (ad 54), .long x_above, .long x_below])) ::
   ((ad 1), .inr (0, [.ref (ad 2), .ref (ad 4), .ref (ad 11), .ref (ad 13), .ref (ad 15), .ref (ad 19), .ref (ad 21), .ref (ad 24), .ref (ad 34), .ref (ad 40), .ref (ad 44), .ref (ad 50), .ref (ad 52), .int nar, .int nam])) ::
   ((ad 2), .inr (8, [.int (2 : Int32), .int (10 : Int32), .ref (ad 3), .int (tr 0)])) ::
   ((ad 3), .inl (cI, 20, .inl (tc 0))) ::
   ((ad 4), .inr (8, [.int (51 : Int32), .int (4 : Int32), .ref (ad 5), .int (tr 1)])) ::
   ((ad 5), .inl (cI, 204, .inl (tc 1))) ::
   ((ad 6), .inr (7, [.ref (ad 7), .int x_reader_count, .ref (ad 8), .int x_reader_waits, .int x_reader_open, .int x_reader_unitIsDue, .int x_reader_digits, .int x_reader_firstDigit, .int x_reader_number, .int x_reader_fault])) ::
   ((ad 7), .inl (cI, 50, .inl x_reader_codes)) ::
   ((ad 8), .inl (cI, 50, .inl x_reader_waiting)) ::
   ((ad 9), .inr (1, [.ref (ad 1), .ref (ad 10), .int x_law_height, .int x_law_gate, .int x_law_kin, .int x_law_town, .int x_law_season, .long x_law_about])) ::
   ((ad 10), .inl (cJ, 50, .inr (.inl x_law_stack))) ::
   ((ad 11), .inr (8, [.int (104 : Int32), .int (16 : Int32), .ref (ad 12), .int (tr 2)])) ::
   ((ad 12), .inl (cI, 1664, .inl (tc 2))) ::
   ((ad 13), .inr (8, [.int (7 : Int32), .int (40 : Int32), .ref (ad 14), .int (tr 3)])) ::
   ((ad 14), .inl (cI, 280, .inl (tc 3))) ::
   ((ad 15), .inr (8, [.int (3 : Int32), .int (60 : Int32), .ref (ad 16), .int (tr 4)])) ::
   ((ad 16), .inl (cI, 180, .inl (tc 4))) ::
   ((ad 17), .inr (2, [.ref (ad 1), .ref (ad 9), .ref (ad 18)])) ::
   ((ad 18), .inl (cJ, 100, .inr (.inl x_ledger_paid))) ::
   ((ad 19), .inr (8, [.int (13 : Int32), .int (3 : Int32), .ref (ad 20), .int (tr 5)])) ::
   ((ad 20), .inl (cI, 39, .inl (tc 5))) ::
   ((ad 21), .inr (8, [.int (1 : Int32), .int (6 : Int32), .ref (ad 22), .int (tr 6)])) ::
   ((ad 22), .inl (cI, 6, .inl (tc 6))) ::
   ((ad 23), .inr (9, [.ref (ad 1), .ref (ad 9)])) ::
   ((ad 24), .inr (8, [.int (3 : Int32), .int (12 : Int32), .ref (ad 25), .int (tr 7)])) ::
   ((ad 25), .inl (cI, 36, .inl (tc 7))) ::
   ((ad 26), .inr (4, [.ref (ad 1), .ref (ad 17), .ref (ad 27), .ref (ad 28), .ref (ad 31), .ref (ad 30), .ref (ad 29), .ref (ad 33), .ref (ad 32)])) ::
   ((ad 27), .inl (cJ, 10, .inr (.inl x_nets_balances))) ::
   ((ad 28), .inl (cJ, 100, .inr (.inl x_nets_pairs))) ::
   ((ad 29), .inl (cI, 1024, .inl x_nets_sets)) ::
   ((ad 30), .inl (cJ, 1024, .inr (.inl x_nets_sums))) ::
   ((ad 31), .inl (cJ, 10, .inr (.inl x_nets_uneven))) ::
   ((ad 32), .inl (cI, 10, .inl x_nets_ring)) ::
   ((ad 33), .inl (cI, 10, .inl x_nets_steps)) ::
   ((ad 34), .inr (8, [.int (3 : Int32), .int (40 : Int32), .ref (ad 35), .int (tr 8)])) ::
   ((ad 35), .inl (cI, 120, .inl (tc 8))) ::
   ((ad 36), .inr (10, [.ref (ad 1), .ref (ad 37), .ref (ad 39), .ref (ad 38)])) ::
   ((ad 37), .inl (cI, 9, .inl x_years_ahead)) ::
   ((ad 38), .inl (cI, 512, .inl x_years_found)) ::
   ((ad 39), .inl (cI, 9, .inl x_years_row)) ::
   ((ad 40), .inr (8, [.int (5 : Int32), .int (30 : Int32), .ref (ad 41), .int (tr 9)])) ::
   ((ad 41), .inl (cI, 150, .inl (tc 9))) ::
   ((ad 42), .inr (6, [.ref (ad 1), .ref (ad 43)])) ::
   ((ad 43), .inl (cI, 30, .inl x_post_carried)) ::
   ((ad 44), .inr (8, [.int (3 : Int32), .int (10 : Int32), .ref (ad 45), .int (tr 10)])) ::
   ((ad 45), .inl (cI, 30, .inl (tc 10))) ::
   ((ad 46), .inr (3, [.ref (ad 1), .ref (ad 47), .ref (ad 49), .ref (ad 48)])) ::
   ((ad 47), .inl (cI, 10, .inl x_persons_alike)) ::
   ((ad 48), .inl (cI, 10, .inl x_persons_least)) ::
   ((ad 49), .inl (cI, 10, .inl x_persons_members)) ::
   ((ad 50), .inr (8, [.int (3 : Int32), .int (6 : Int32), .ref (ad 51), .int (tr 11)])) ::
   ((ad 51), .inl (cI, 18, .inl (tc 11))) ::
   ((ad 52), .inr (8, [.int (3 : Int32), .int (1 : Int32), .ref (ad 53), .int (tr 12)])) ::
   ((ad 53), .inl (cI, 3, .inl (tc 12))) ::
   ((ad 54), .inr (5, [.long x_planner_best, .int x_planner_bestPlan, .ref (ad 1), .ref (ad 23), .ref (ad 55)])) ::
   ((ad 55), .inl (cJ, 54, .inr (.inl x_planner_silver))) ::
   ((ad 56), .inl (cH, 2, .inr (.inr (.inr (.inr x_images))))) ::
   ((ad 57), .inr (12, [.ref (ad 58), .ref (ad 77), .ref (ad 78), .long w_above, .long w_below, .int w_steps, .ref (ad 59), .ref (ad 60), .int w_waiting, .ref (ad 61), .ref (ad 63), .ref (ad 62), .ref (ad 65), .ref (ad 66), .ref (ad 64), .ref (ad 67), .ref (ad 68), .ref (ad 69), .ref (ad 70), .ref (ad 72), .ref (ad 71), .ref (ad 73), .ref (ad 74), .ref (ad 75), .ref (ad 76)])) ::
   ((ad 58), .inl (cI, 1951, .inl st)) ::
   ((ad 59), .inl (cI, 70, .inl w_step)) ::
   ((ad 60), .inl (cI, 70, .inl w_with)) ::
   ((ad 61), .inl (cI, 70, .inl w_waits)) ::
   ((ad 62), .inl (cJ, 5, .inr (.inl w_given))) ::
   ((ad 63), .inl (cJ, 70, .inr (.inl w_value))) ::
   ((ad 64), .inl (cI, 1024, .inl w_most)) ::
   ((ad 65), .inl (cJ, 10, .inr (.inl w_net))) ::
   ((ad 66), .inl (cJ, 1024, .inr (.inl w_together))) ::
   ((ad 67), .inl (cZ, 100, .inl w_owes)) ::
   ((ad 68), .inl (cZ, 110, .inl w_can)) ::
   ((ad 69), .inl (cI, 10, .inl w_row)) ::
   ((ad 70), .inl (cI, 9, .inl w_before)) ::
   ((ad 71), .inl (cJ, 512, .inr (.inl w_on))) ::
   ((ad 72), .inl (cJ, 512, .inr (.inl w_to))) ::
   ((ad 73), .inl (cI, 30, .inl w_load)) ::
   ((ad 74), .inl (cI, 10, .inl w_lead)) ::
   ((ad 75), .inl (cI, 10, .inl w_bestLead)) ::
   ((ad 76), .inl (cJ, 54, .inr (.inl w_silver))) ::
   ((ad 77), .inl (cI, 3902, .inl w_images)) ::
   ((ad 78), .inl (cZ, 2, .inl w_isKept)) :: []
def LawS (IM : (Nat → Option Nat) → (Nat → Int32) → (Nat → Int32) → Prop) (cI cJ cZ cH : ClassId) (ad : Nat → Nat) (tl : va_W) (ws : va_W) : Prop := ∃ (tc : Nat → Nat → Int32) (tr : Nat → Int32) (nar nam : Int32) (st : Nat → Int32) (x_above : Int64) (x_below : Int64) (x_reader_codes : Nat → Int32) (x_reader_count : Int32) (x_reader_digits : Int32) (x_reader_fault : Int32) (x_reader_firstDigit : Int32) (x_reader_number : Int32) (x_reader_open : Int32) (x_reader_unitIsDue : Int32) (x_reader_waiting : Nat → Int32) (x_reader_waits : Int32) (x_law_about : Int64) (x_law_gate : Int32) (x_law_height : Int32) (x_law_kin : Int32) (x_law_season : Int32) (x_law_stack : Nat → Int64) (x_law_town : Int32) (x_ledger_paid : Nat → Int64) (x_nets_balances : Nat → Int64) (x_nets_pairs : Nat → Int64) (x_nets_sets : Nat → Int32) (x_nets_sums : Nat → Int64) (x_nets_uneven : Nat → Int64) (x_nets_ring : Nat → Int32) (x_nets_steps : Nat → Int32) (x_years_ahead : Nat → Int32) (x_years_found : Nat → Int32) (x_years_row : Nat → Int32) (x_post_carried : Nat → Int32) (x_persons_alike : Nat → Int32) (x_persons_least : Nat → Int32) (x_persons_members : Nat → Int32) (x_planner_best : Int64) (x_planner_bestPlan : Int32) (x_planner_silver : Nat → Int64) (w_above : Int64) (w_below : Int64) (w_steps : Int32) (w_waiting : Int32) (w_step : Nat → Int32) (w_with : Nat → Int32) (w_waits : Nat → Int32) (w_given : Nat → Int64) (w_value : Nat → Int64) (w_most : Nat → Int32) (w_net : Nat → Int64) (w_together : Nat → Int64) (w_owes : Nat → Int32) (w_can : Nat → Int32) (w_row : Nat → Int32) (w_before : Nat → Int32) (w_on : Nat → Int64) (w_to : Nat → Int64) (w_load : Nat → Int32) (w_lead : Nat → Int32) (w_bestLead : Nat → Int32) (w_silver : Nat → Int64) (w_images : Nat → Int32) (w_isKept : Nat → Int32) (x_images : Nat → Option Nat), ws = WL cI cJ cZ cH ad tc tr nar nam st x_above x_below x_reader_codes x_reader_count x_reader_digits x_reader_fault x_reader_firstDigit x_reader_number x_reader_open x_reader_unitIsDue x_reader_waiting x_reader_waits x_law_about x_law_gate x_law_height x_law_kin x_law_season x_law_stack x_law_town x_ledger_paid x_nets_balances x_nets_pairs x_nets_sets x_nets_sums x_nets_uneven x_nets_ring x_nets_steps x_years_ahead x_years_found x_years_row x_post_carried x_persons_alike x_persons_least x_persons_members x_planner_best x_planner_bestPlan x_planner_silver w_above w_below w_steps w_waiting w_step w_with w_waits w_given w_value w_most w_net w_together w_owes w_can w_row w_before w_on w_to w_load w_lead w_bestLead w_silver w_images w_isKept x_images ++ tl ∧ Rel actK tc tr nar nam st ∧ x_nets_sets 0 = 0 ∧ x_nets_sums 0 = 0 ∧ w_most 0 = 0 ∧ x_above = w_above ∧ x_below = w_below ∧ IM x_images w_images w_isKept
section II
variable {p : Program} {l : Launch} {e : Env} {R : Room} {s : State} {m : MethodId} {args : Array Value} {below : List Frame} {meth : Method} {c : Code} {cc : ByteArray} {own : String} {Ts : List Cond} {D : va_G} {tys : List (ClassId × FieldType)} {A : Nat → Prop} {nL cells slots : Nat} {Q : State → Prop} {ws : va_W} {pc : Nat} {lv lv' : List (Nat × Value)} {st : List Value}
theorem ii_sld {b L : Nat} {xs : Nat → Int32} {i : Int32} (hX : va_X b L xs s s.heap) (hbl : b < s.heap.size) (hbA : ¬ A b) (hin : vp_in i L) (d : decode cc pc = .ok (.iaload, 1)) (k : WX p l e R s m args below meth c cc own Ts D tys A nL cells slots Q ws (pc + 1) lv (.int (xs i.toNatClampNeg) :: st)) : WX p l e R s m args below meth c cc own Ts D tys A nL cells slots Q ws pc lv (.int i :: .ref b :: st) := by
  intro C H locs ls hP hD hS hl
  obtain ⟨hx, hb, hml, hown, hts, hK, hlk, hA, hZ⟩ := id C
  exact va_sld hx hb hX hbl hbA hS hin d (k C H locs ls hP hD hS hl)
theorem ii_slen {b L : Nat} {xs : Nat → Int32} (hX : va_X b L xs s s.heap) (hbl : b < s.heap.size) (hbA : ¬ A b) (d : decode cc pc = .ok (.arraylength, 1)) (k : WX p l e R s m args below meth c cc own Ts D tys A nL cells slots Q ws (pc + 1) lv (.int (Int32.ofNat L) :: st)) : WX p l e R s m args below meth c cc own Ts D tys A nL cells slots Q ws pc lv (.ref b :: st) := by
  intro C H locs ls hP hD hS hl
  obtain ⟨hx, hb, hml, hown, hts, hK, hlk, hA, hZ⟩ := id C
  exact va_slen hx hb hX hbl hbA hS d (k C H locs ls hP hD hS hl)
end II
