section OPS
variable {AK : (Nat → Int32) → (Nat → Int32) → Prop} {tc : Nat → Nat → Int32} {tr : Nat → Int32} {nar nam : Int32} {st : Nat → Int32}
def purZ (g : Nat → Int32) (B i : Nat) : Nat → Int32 := fun k => if B + 3 ≤ k ∧ k < B + 3 + i then 0 else g k
theorem M_purZ {g : Nat → Int32} {B : Nat} (hB : B + 13 ≤ 1951) : itr (B_X12_purse_90 (nI B)) FU ((0 : Int32), g) = some (nI 10, purZ g B 10) := by
  have h0 : ((0 : Int32), g) = (fun i => (nI i, purZ g B i)) 0 := by
    show ((0 : Int32), g) = (nI 0, purZ g B 0)
    have : purZ g B 0 = g := by funext k; unfold purZ; rw [if_neg (by omega)]
    rw [this]; rfl
  rw [h0]
  refine itr_cnt (fun i => (nI i, purZ g B i)) _ 10 (fun i hi => ?_) ?_ (by omega)
  · unfold B_X12_purse_90
    dsimp only
    rw [show (10 : Int32) = nI 10 from rfl, if_pos (nI_lt hi (by decide))]
    rw [show (3 : Int32) = nI 3 from rfl, nI_add, nI_add]
    refine sbind (M_set (by omega)) ?_
    rw [lt_eq, show (1 : Int32) = nI 1 from rfl, nI_add]
    have : upd (purZ g B i) (B + 3 + i) 0 = purZ g B (i + 1) := by
      funext k
      unfold upd purZ
      (repeat' split) <;> first | rfl | omega
    rw [this]
  · unfold B_X12_purse_90
    dsimp only
    rw [show (10 : Int32) = nI 10 from rfl, if_neg (nI_nlt (a := 10) (b := 10) (by omega) (by decide))]
theorem P_purse (h : Rel AK tc tr nar nam st) (p0 p1 p2 : Int32) : Two (F_X11_purse (tr 0) (tc 5) (tr 5) p0 p1 p2) (F_X12_purse st p0 p1 p2) (fun o1 o2 => o1.1 = o2.1 ∧ Rel AK (va_up tc 5 o1.2.1) (va_up tr 5 o1.2.2) nar nam o2.2) := by
  have hsame := Rel_same h 5
  obtain ⟨n, a, b, R⟩ := h
  obtain ⟨⟨q1, q2, q3⟩, -, -⟩ := id R.2.2.2.2.2.1
  obtain ⟨⟨m1, m2, m3⟩, -, -⟩ := id R.1
  refine two_guard (c := inR p0 0 (((n 0 : Nat) : Int) - 1)) (fun z => by rw [m2]; exact C_noM_t (by omega) z) (fun z => by rw [m2]; exact C_noM_f (by omega) z) (M_is_t (c := 0) (by decide) m3 (by omega)) (M_is_f (c := 0) (by decide) m3 (by omega)) (fun _ => two_end ⟨rfl, hsame⟩) (fun hp0 => ?_)
  refine two_guard (c := inR p1 0 99) C_season_t C_season_f M_season_t M_season_f (fun _ => two_end ⟨rfl, hsame⟩) (fun hp1 => ?_)
  refine two_guard (c := inR p2 1 10000) (C_out_t rfl rfl) (C_out_f rfl rfl) (M_in_t rfl rfl) (M_in_f rfl rfl) (fun _ => two_end ⟨rfl, hsame⟩) (fun hp2 => ?_)
  obtain ⟨km, km1, km2, rfl⟩ := inR_row hp0
  obtain ⟨ke, ke1, ke2, rfl⟩ := inR_nat (b := 99) hp1
  obtain ⟨kp, kp0, kp1, kp2, rfl⟩ := inR_natA (a := 1) (b := 10000) hp2
  refine two_full (lim := 3) (cnt := 4) q2 q3 q1 (by decide) (by decide) (two_end ⟨rfl, hsame⟩) (fun hn => ?_)
  obtain ⟨x, hx1, hx2⟩ := C_add (len := 39) (lim := 3) (n := n 4) (w := 13) (cells := tc 5) (a := nI km) (b := nI ke) (c := nI kp) (d := 0) (e := 0) hn (by decide) (by decide) (by decide) (by decide) (by decide)
  rw [q2]
  refine two_l hx1 ?_
  refine two_r (x := nI (n 4)) (by rw [← q3]; exact M_at (k := 4) (by decide)) ?_
  rw [show (1552 : Int32) = nI 1552 from rfl, show (13 : Int32) = nI 13 from rfl, pk_mul, nI_add]
  refine two_rt (two_r (M_set (by omega)) (two_r (M_setj (j := 1) (by omega)) (two_r (M_setj (j := 2) (by omega)) (two_r (M_purZ (by omega)) ?_))))
  have hz : ∀ k, ¬ (1552 + 13 * n 4 ≤ k ∧ k < 1552 + 13 * n 4 + 13) → purZ (upd (upd (upd st (1552 + 13 * n 4) (nI km)) (1552 + 13 * n 4 + 1) (nI ke)) (1552 + 13 * n 4 + 2) (nI kp)) (1552 + 13 * n 4) 10 k = st k := fun k h => by
    unfold purZ; rw [if_neg (by omega), pk_un (by omega), pk_un (by omega), pk_un (by omega)]
  refine two_r (M_one (c := 4) (n := n 4) (by decide) ((hz 4 (by omega)).trans q3) (by omega)) ?_
  obtain ⟨g, hg⟩ : ∃ g, g = upd (purZ (upd (upd (upd st (1552 + 13 * n 4) (nI km)) (1552 + 13 * n 4 + 1) (nI ke)) (1552 + 13 * n 4 + 2) (nI kp)) (1552 + 13 * n 4) 10) 4 (nI (n 4 + 1)) := ⟨_, rfl⟩
  have hgo : ∀ k, ¬ (1552 + 13 * n 4 ≤ k ∧ k < 1552 + 13 * n 4 + 13) → k ≠ 4 → g k = st k := fun k h1 h2 => by rw [hg, pk_un h2, hz k h1]
  have hgr : ∀ j, j < 13 → g (1552 + 13 * n 4 + j) = if j = 0 then nI km else if j = 1 then nI ke else if j = 2 then nI kp else 0 := fun j hj => by
    rw [hg, pk_un (by omega)]
    unfold purZ upd
    (repeat' split) <;> first | rfl | omega
  refine two_end ⟨rfl, _, _, _, R_pur (n := n) (m := n 4 + 1) (x := x) (y := nI (n 4 + 1)) (st2 := upd (purZ (upd (upd (upd st (1552 + 13 * n 4) (nI km)) (1552 + 13 * n 4 + 1) (nI ke)) (1552 + 13 * n 4 + 2) (nI kp)) (1552 + 13 * n 4) 10) 4 (nI (n 4 + 1))) R ?_ ?_⟩
  · rw [← hg]; exact fun k h1 h2 h3 => hgo k (by omega) h3
  · rw [← hg]
    refine rT_add R.2.2.2.2.2.1 hn (by decide) (fun k hk => by rw [hx2, addC_old hk]) (fun k h1 h2 => hgo k (by omega) (by omega)) (by rw [hg, pk_us]) (fun j hj => ?_) ?_
    · rw [hx2, hgr j hj]
      unfold addC
      (repeat' split) <;> first | rfl | omega
    · have hv : ∀ j, j < 13 → rowf g 1552 13 (n 4) j = if j = 0 then nI km else if j = 1 then nI ke else if j = 2 then nI kp else 0 := fun j hj => by rw [rowf_at hj, hgr j hj]
      exact ⟨km, ke, kp, fun _ => 0, km1, ke1, kp0, kp1, hv 0 (by decide), hv 1 (by decide), hv 2 (by decide), fun j hj => by rw [hv _ (by omega), if_neg (by omega), if_neg (by omega), if_neg (by omega)]; rfl, fun _ _ => rfl, by decide⟩
end OPS
