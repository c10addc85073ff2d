theorem M_setj {st : Nat → Int32} {k j : Nat} {x : Int32} (h : k + j < 1951) : sI st 1951 (nI k + nI j) x = some (upd st (k + j) x) := by rw [nI_add]; exact M_set h
section OPS
variable {AK : (Nat → Int32) → (Nat → Int32) → Prop} {tc : Nat → Nat → Int32} {tr : Nat → Int32} {nar nam : Int32} {st : Nat → Int32}
theorem thing_of {x : Int32} (h : inR x (-1) 7) : x = -1 ∨ ∃ t : Nat, t < 8 ∧ x = nI t := by
  by_cases h0 : x.toInt = -1
  · left
    rw [← Int32.toInt_inj]; exact h0
  · right
    obtain ⟨t, h1, h2, h3⟩ := inR_nat (x := x) (b := 7) ⟨by have := h.1; omega, h.2⟩
    exact ⟨t, by omega, h3⟩
theorem P_stone (h : Rel AK tc tr nar nam st) (p0 p1 p2 : Int32) : Two (F_X11_stone (tc 7) (tr 7) p0 p1 p2) (F_X12_stone st p0 p1 p2) (fun o1 o2 => o1.1 = o2.1 ∧ Rel AK (va_up tc 7 o1.2.1) (va_up tr 7 o1.2.2) nar nam o2.2) := by
  have hsame := Rel_same h 7
  obtain ⟨n, a, b, R⟩ := h
  obtain ⟨⟨q1, q2, q3⟩, -, -⟩ := id R.2.2.2.2.2.2.2.1
  obtain ⟨⟨m1, m2, m3⟩, -, -⟩ := id R.1
  obtain ⟨u1, u2, u3, u4, u5, u6, u7, u8⟩ := id R.2.2.2.2.2.2.2.2.2.2.2.2.2
  refine two_guard (c := inR p0 (1) 10000) (C_out_t rfl rfl) (C_out_f rfl rfl) (M_in_t rfl rfl) (M_in_f rfl rfl) (fun _ => two_end ⟨rfl, hsame⟩) (fun hp0 => ?_)
  refine two_guard (c := inR p1 (1) 10000) (C_out_t rfl rfl) (C_out_f rfl rfl) (M_in_t rfl rfl) (M_in_f rfl rfl) (fun _ => two_end ⟨rfl, hsame⟩) (fun hp1 => ?_)
  obtain ⟨kb, kb0, kb1, kb2, rfl⟩ := inR_natA (a := 1) (b := 10000) hp1
  refine two_guard (c := inR p2 0 ((kb : Int) - 1)) (C_rows_t kb2) (C_rows_f kb2) (M_in_t rfl (by rw [Int32.toInt_toInt64, nI_m1 kb2])) (M_in_f rfl (by rw [Int32.toInt_toInt64, nI_m1 kb2])) (fun _ => two_end ⟨rfl, hsame⟩) (fun hp2 => ?_)
  obtain ⟨ka, ka0, ka1, ka2, rfl⟩ := inR_natA (a := 1) (b := 10000) hp0
  obtain ⟨ke, ke1, ke2, rfl⟩ := inR_row hp2
  refine two_full (lim := 12) (cnt := 6) q2 q3 q1 (by decide) (by decide) (two_end ⟨rfl, hsame⟩) (fun hn => ?_)
  obtain ⟨x, hx1, hx2⟩ := C_add (len := 36) (lim := 12) (n := n 6) (w := 3) (cells := tc 7) (a := (nI ka)) (b := (nI kb)) (c := (nI ke)) (d := 0) (e := 0) hn (by decide) (by decide) (by decide) (by decide) (by decide)
  rw [q2]
  refine two_l hx1 ?_
  refine two_r (x := nI (n 6)) (by rw [← q3]; exact M_at (k := 6) (by decide)) ?_
  rw [show (1597 : Int32) = nI 1597 from rfl, show (3 : Int32) = nI 3 from rfl, pk_mul, nI_add]
  refine two_rt ?_
  refine two_r (M_set (by omega)) ?_
  refine two_r (M_setj (j := 1) (by omega)) ?_
  refine two_r (M_setj (j := 2) (by omega)) ?_
  refine two_r (M_one (c := 6) (n := n 6) (by decide) (by rw [pk_un (by omega), pk_un (by omega), pk_un (by omega)]; exact q3) (by omega)) ?_
  have hfr : ∀ k, k < 1951 → ¬ (1597 ≤ k ∧ k < 1633) → k ≠ 6 → (upd (upd (upd (upd st (1597 + 3 * n 6) (nI ka)) (1597 + 3 * n 6 + 1) (nI kb)) (1597 + 3 * n 6 + 2) (nI ke)) 6 (nI (n 6 + 1))) k = st k := fun k h1 h2 h3 => by rw [pk_un h3, pk_un (by omega), pk_un (by omega), pk_un (by omega)]
  have hrw : ∀ k, 1597 ≤ k → k < 1597 + 3 * n 6 → (upd (upd (upd (upd st (1597 + 3 * n 6) (nI ka)) (1597 + 3 * n 6 + 1) (nI kb)) (1597 + 3 * n 6 + 2) (nI ke)) 6 (nI (n 6 + 1))) k = st k := fun k h1 h2 => by rw [pk_un (by omega), pk_un (by omega), pk_un (by omega), pk_un (by omega)]
  refine two_end ⟨rfl, _, _, _, R_sto (n := n) (m := n 6 + 1) (x := x) (y := nI (n 6 + 1)) (st2 := upd (upd (upd (upd st (1597 + 3 * n 6) (nI ka)) (1597 + 3 * n 6 + 1) (nI kb)) (1597 + 3 * n 6 + 2) (nI ke)) 6 (nI (n 6 + 1))) R hfr ?_⟩
  refine rT_add R.2.2.2.2.2.2.2.1 hn (by decide) (fun k hk => by rw [hx2, addC_old hk]) hrw pk_us (fun j hj => ?_) ?_
  · rw [hx2]
    unfold addC upd
    (repeat' split) <;> first | rfl | omega
  · have hv : ∀ j, j < 3 → rowf (upd (upd (upd (upd st (1597 + 3 * n 6) (nI ka)) (1597 + 3 * n 6 + 1) (nI kb)) (1597 + 3 * n 6 + 2) (nI ke)) 6 (nI (n 6 + 1))) 1597 3 (n 6) j = (upd (upd (upd (upd st (1597 + 3 * n 6) (nI ka)) (1597 + 3 * n 6 + 1) (nI kb)) (1597 + 3 * n 6 + 2) (nI ke)) 6 (nI (n 6 + 1))) (1597 + 3 * n 6 + j) := fun j hj => by unfold rowf; rw [if_pos hj]
    have v0 := hv 0 (by decide)
    rw [pk_un (by omega), pk_un (by omega), pk_un (by omega), Nat.add_zero (1597 + 3 * n 6), pk_us] at v0
    have v1 := hv 1 (by decide)
    rw [pk_un (by omega), pk_un (by omega), pk_us] at v1
    have v2 := hv 2 (by decide)
    rw [pk_un (by omega), pk_us] at v2
    exact ⟨ka, kb, ke, ka0, ka1, kb0, kb1, ke1, v0, v1, v2⟩
theorem P_mention (h : Rel AK tc tr nar nam st) (p0 p1 p2 : Int32) : Two (F_X11_mention (tc 10) (tr 10) p0 p1 p2) (F_X12_mention st p0 p1 p2) (fun o1 o2 => o1.1 = o2.1 ∧ Rel AK (va_up tc 10 o1.2.1) (va_up tr 10 o1.2.2) nar nam o2.2) := by
  have hsame := Rel_same h 10
  obtain ⟨n, a, b, R⟩ := h
  obtain ⟨⟨q1, q2, q3⟩, -, -⟩ := id R.2.2.2.2.2.2.2.2.2.2.1
  obtain ⟨⟨m1, m2, m3⟩, -, -⟩ := id R.1
  obtain ⟨u1, u2, u3, u4, u5, u6, u7, u8⟩ := id R.2.2.2.2.2.2.2.2.2.2.2.2.2
  refine two_guard (c := inR p0 (-1) 4) (C_out_t rfl rfl) (C_out_f rfl rfl) (M_in_t rfl rfl) (M_in_f rfl rfl) (fun _ => two_end ⟨rfl, hsame⟩) (fun hp0 => ?_)
  refine two_guard (c := inR p1 (-1) 9) (C_out_t rfl rfl) (C_out_f rfl rfl) (M_in_t rfl rfl) (M_in_f rfl rfl) (fun _ => two_end ⟨rfl, hsame⟩) (fun hp1 => ?_)
  refine two_guard (c := inR p2 0 99) C_season_t C_season_f M_season_t M_season_f (fun _ => two_end ⟨rfl, hsame⟩) (fun hp2 => ?_)
  refine two_full (lim := 10) (cnt := 9) q2 q3 q1 (by decide) (by decide) (two_end ⟨rfl, hsame⟩) (fun hn => ?_)
  obtain ⟨x, hx1, hx2⟩ := C_add (len := 30) (lim := 10) (n := n 9) (w := 3) (cells := tc 10) (a := p0) (b := p1) (c := p2) (d := 0) (e := 0) hn (by decide) (by decide) (by decide) (by decide) (by decide)
  rw [q2]
  refine two_l hx1 ?_
  refine two_r (x := nI (n 9)) (by rw [← q3]; exact M_at (k := 9) (by decide)) ?_
  rw [show (1903 : Int32) = nI 1903 from rfl, show (3 : Int32) = nI 3 from rfl, pk_mul, nI_add]
  refine two_rt ?_
  refine two_r (M_set (by omega)) ?_
  refine two_r (M_setj (j := 1) (by omega)) ?_
  refine two_r (M_setj (j := 2) (by omega)) ?_
  refine two_r (M_one (c := 9) (n := n 9) (by decide) (by rw [pk_un (by omega), pk_un (by omega), pk_un (by omega)]; exact q3) (by omega)) ?_
  have hfr : ∀ k, k < 1951 → ¬ (1903 ≤ k ∧ k < 1933) → k ≠ 9 → (upd (upd (upd (upd st (1903 + 3 * n 9) p0) (1903 + 3 * n 9 + 1) p1) (1903 + 3 * n 9 + 2) p2) 9 (nI (n 9 + 1))) k = st k := fun k h1 h2 h3 => by rw [pk_un h3, pk_un (by omega), pk_un (by omega), pk_un (by omega)]
  have hrw : ∀ k, 1903 ≤ k → k < 1903 + 3 * n 9 → (upd (upd (upd (upd st (1903 + 3 * n 9) p0) (1903 + 3 * n 9 + 1) p1) (1903 + 3 * n 9 + 2) p2) 9 (nI (n 9 + 1))) k = st k := fun k h1 h2 => by rw [pk_un (by omega), pk_un (by omega), pk_un (by omega), pk_un (by omega)]
  refine two_end ⟨rfl, _, _, _, R_men (n := n) (m := n 9 + 1) (x := x) (y := nI (n 9 + 1)) (st2 := upd (upd (upd (upd st (1903 + 3 * n 9) p0) (1903 + 3 * n 9 + 1) p1) (1903 + 3 * n 9 + 2) p2) 9 (nI (n 9 + 1))) R hfr ?_⟩
  refine rT_add R.2.2.2.2.2.2.2.2.2.2.1 hn (by decide) (fun k hk => by rw [hx2, addC_old hk]) hrw pk_us (fun j hj => ?_) ?_
  · rw [hx2]
    unfold addC upd
    (repeat' split) <;> first | rfl | omega
  · have hv : ∀ j, j < 3 → rowf (upd (upd (upd (upd st (1903 + 3 * n 9) p0) (1903 + 3 * n 9 + 1) p1) (1903 + 3 * n 9 + 2) p2) 9 (nI (n 9 + 1))) 1903 3 (n 9) j = (upd (upd (upd (upd st (1903 + 3 * n 9) p0) (1903 + 3 * n 9 + 1) p1) (1903 + 3 * n 9 + 2) p2) 9 (nI (n 9 + 1))) (1903 + 3 * n 9 + j) := fun j hj => by unfold rowf; rw [if_pos hj]
    have v0 := hv 0 (by decide)
    rw [pk_un (by omega), pk_un (by omega), pk_un (by omega), Nat.add_zero (1903 + 3 * n 9), pk_us] at v0
    have v1 := hv 1 (by decide)
    rw [pk_un (by omega), pk_un (by omega), pk_us] at v1
    have v2 := hv 2 (by decide)
    rw [pk_un (by omega), pk_us] at v2
    exact ⟨by rw [v0]; exact hp0, by rw [v1]; exact hp1, by rw [v2]; exact hp2⟩
theorem M_name_t {st : Nat → Int32} {n : Nat} {p : Int32} (h0 : st 12 = nI n) (hn : n < 2 ^ 31) (h : inR p 0 ((n : Int) - 1)) : F_X12_isName st p = some 1 := by
  unfold F_X12_isName
  refine sbind (M_at (k := 12) (by decide)) ?_
  rw [h0]
  exact sbind (M_in_t rfl (by rw [Int32.toInt_toInt64, nI_m1 hn]) h) (sbind bZ_1 rfl)
theorem M_name_f {st : Nat → Int32} {n : Nat} {p : Int32} (h0 : st 12 = nI n) (hn : n < 2 ^ 31) (h : ¬ inR p 0 ((n : Int) - 1)) : F_X12_isName st p = some 0 := by
  unfold F_X12_isName
  refine sbind (M_at (k := 12) (by decide)) ?_
  rw [h0]
  exact sbind (M_in_f rfl (by rw [Int32.toInt_toInt64, nI_m1 hn]) h) (sbind bZ_0 rfl)
theorem P_ahead (h : Rel AK tc tr nar nam st) (p0 p1 p2 : Int32) : Two (F_X11_ahead nam (tc 8) (tr 8) p0 p1 p2) (F_X12_ahead st p0 p1 p2) (fun o1 o2 => o1.1 = o2.1 ∧ Rel AK (va_up tc 8 o1.2.1) (va_up tr 8 o1.2.2) nar nam o2.2) := by
  have hsame := Rel_same h 8
  obtain ⟨n, a, b, R⟩ := h
  obtain ⟨⟨q1, q2, q3⟩, -, -⟩ := id R.2.2.2.2.2.2.2.2.1
  obtain ⟨⟨m1, m2, m3⟩, -, -⟩ := id R.1
  obtain ⟨u1, u2, u3, u4, u5, u6, u7, u8⟩ := id R.2.2.2.2.2.2.2.2.2.2.2.2.2
  refine two_guard (c := inR p0 0 ((b : Int) - 1)) (fun z => by rw [u7]; exact C_noN_t (by omega) z) (fun z => by rw [u7]; exact C_noN_f (by omega) z) (M_name_t u8 (by omega)) (M_name_f u8 (by omega)) (fun _ => two_end ⟨rfl, hsame⟩) (fun hp0 => ?_)
  refine two_guard (c := inR p1 0 ((b : Int) - 1)) (fun z => by rw [u7]; exact C_noN_t (by omega) z) (fun z => by rw [u7]; exact C_noN_f (by omega) z) (M_name_t u8 (by omega)) (M_name_f u8 (by omega)) (fun _ => two_end ⟨rfl, hsame⟩) (fun hp1 => ?_)
  refine two_if (fun _ => two_end ⟨rfl, hsame⟩) (fun hne => ?_)
  refine two_guard (c := inR p2 (0) 99) (C_out_t rfl rfl) (C_out_f rfl rfl) (M_in_t rfl rfl) (M_in_f rfl rfl) (fun _ => two_end ⟨rfl, hsame⟩) (fun hp2 => ?_)
  obtain ⟨ka, ka1, ka2, rfl⟩ := inR_row hp0
  obtain ⟨kb, kb1, kb2, rfl⟩ := inR_row hp1
  obtain ⟨kc, kc1, kc2, rfl⟩ := inR_nat (b := 99) hp2
  refine two_full (lim := 40) (cnt := 7) q2 q3 q1 (by decide) (by decide) (two_end ⟨rfl, hsame⟩) (fun hn => ?_)
  obtain ⟨x, hx1, hx2⟩ := C_add (len := 120) (lim := 40) (n := n 7) (w := 3) (cells := tc 8) (a := (nI ka)) (b := (nI kb)) (c := (nI kc)) (d := 0) (e := 0) hn (by decide) (by decide) (by decide) (by decide) (by decide)
  rw [q2]
  refine two_l hx1 ?_
  refine two_r (x := nI (n 7)) (by rw [← q3]; exact M_at (k := 7) (by decide)) ?_
  rw [show (1633 : Int32) = nI 1633 from rfl, show (3 : Int32) = nI 3 from rfl, pk_mul, nI_add]
  refine two_rt ?_
  refine two_r (M_set (by omega)) ?_
  refine two_r (M_setj (j := 1) (by omega)) ?_
  refine two_r (M_setj (j := 2) (by omega)) ?_
  refine two_r (M_one (c := 7) (n := n 7) (by decide) (by rw [pk_un (by omega), pk_un (by omega), pk_un (by omega)]; exact q3) (by omega)) ?_
  have hfr : ∀ k, k < 1951 → ¬ (1633 ≤ k ∧ k < 1753) → k ≠ 7 → (upd (upd (upd (upd st (1633 + 3 * n 7) (nI ka)) (1633 + 3 * n 7 + 1) (nI kb)) (1633 + 3 * n 7 + 2) (nI kc)) 7 (nI (n 7 + 1))) k = st k := fun k h1 h2 h3 => by rw [pk_un h3, pk_un (by omega), pk_un (by omega), pk_un (by omega)]
  have hrw : ∀ k, 1633 ≤ k → k < 1633 + 3 * n 7 → (upd (upd (upd (upd st (1633 + 3 * n 7) (nI ka)) (1633 + 3 * n 7 + 1) (nI kb)) (1633 + 3 * n 7 + 2) (nI kc)) 7 (nI (n 7 + 1))) k = st k := fun k h1 h2 => by rw [pk_un (by omega), pk_un (by omega), pk_un (by omega), pk_un (by omega)]
  refine two_end ⟨rfl, _, _, _, R_tol (n := n) (m := n 7 + 1) (x := x) (y := nI (n 7 + 1)) (st2 := upd (upd (upd (upd st (1633 + 3 * n 7) (nI ka)) (1633 + 3 * n 7 + 1) (nI kb)) (1633 + 3 * n 7 + 2) (nI kc)) 7 (nI (n 7 + 1))) R hfr ?_⟩
  refine rT_add R.2.2.2.2.2.2.2.2.1 hn (by decide) (fun k hk => by rw [hx2, addC_old hk]) hrw pk_us (fun j hj => ?_) ?_
  · rw [hx2]
    unfold addC upd
    (repeat' split) <;> first | rfl | omega
  · have hv : ∀ j, j < 3 → rowf (upd (upd (upd (upd st (1633 + 3 * n 7) (nI ka)) (1633 + 3 * n 7 + 1) (nI kb)) (1633 + 3 * n 7 + 2) (nI kc)) 7 (nI (n 7 + 1))) 1633 3 (n 7) j = (upd (upd (upd (upd st (1633 + 3 * n 7) (nI ka)) (1633 + 3 * n 7 + 1) (nI kb)) (1633 + 3 * n 7 + 2) (nI kc)) 7 (nI (n 7 + 1))) (1633 + 3 * n 7 + j) := fun j hj => by unfold rowf; rw [if_pos hj]
    have v0 := hv 0 (by decide)
    rw [pk_un (by omega), pk_un (by omega), pk_un (by omega), Nat.add_zero (1633 + 3 * n 7), pk_us] at v0
    have v1 := hv 1 (by decide)
    rw [pk_un (by omega), pk_un (by omega), pk_us] at v1
    have v2 := hv 2 (by decide)
    rw [pk_un (by omega), pk_us] at v2
    exact ⟨ka, kb, kc, ka1, kb1, fun e => hne (by rw [e]), kc1, v0, v1, v2⟩
theorem P_letter (h : Rel AK tc tr nar nam st) (p0 p1 p2 p3 p4 : Int32) : Two (F_X11_letter (tc 9) (tr 9) (tr 0) p0 p1 p2 p3 p4) (F_X12_letter st p0 p1 p2 p3 p4) (fun o1 o2 => o1.1 = o2.1 ∧ Rel AK (va_up tc 9 o1.2.1) (va_up tr 9 o1.2.2) nar nam o2.2) := by
  have hsame := Rel_same h 9
  obtain ⟨n, a, b, R⟩ := h
  obtain ⟨⟨q1, q2, q3⟩, -, -⟩ := id R.2.2.2.2.2.2.2.2.2.1
  obtain ⟨⟨m1, m2, m3⟩, -, -⟩ := id R.1
  obtain ⟨u1, u2, u3, u4, u5, u6, u7, u8⟩ := id R.2.2.2.2.2.2.2.2.2.2.2.2.2
  refine two_guard (c := inR p0 0 (((n 0 : Nat) : Int) - 1)) (fun z => by rw [m2]; exact C_noM_t (by omega) z) (fun z => by rw [m2]; exact C_noM_f (by omega) z) (M_is_t (c := 0) (by decide) m3 (by omega)) (M_is_f (c := 0) (by decide) m3 (by omega)) (fun _ => two_end ⟨rfl, hsame⟩) (fun hp0 => ?_)
  refine two_guard (c := inR p1 0 (((n 0 : Nat) : Int) - 1)) (fun z => by rw [m2]; exact C_noM_t (by omega) z) (fun z => by rw [m2]; exact C_noM_f (by omega) z) (M_is_t (c := 0) (by decide) m3 (by omega)) (M_is_f (c := 0) (by decide) m3 (by omega)) (fun _ => two_end ⟨rfl, hsame⟩) (fun hp1 => ?_)
  refine two_if (fun _ => two_end ⟨rfl, hsame⟩) (fun hne => ?_)
  refine two_guard (c := inR p2 (0) 9999) (C_out_t rfl rfl) (C_out_f rfl rfl) (M_in_t rfl rfl) (M_in_f rfl rfl) (fun _ => two_end ⟨rfl, hsame⟩) (fun hp2 => ?_)
  obtain ⟨ks, ks1, ks2, rfl⟩ := inR_nat (b := 9999) hp2
  refine two_guard (c := inR p3 ks 9999) (C_out_t (nI_toInt ks2) rfl) (C_out_f (nI_toInt ks2) rfl) (M_in_t (by rw [Int32.toInt_toInt64, nI_toInt ks2]) rfl) (M_in_f (by rw [Int32.toInt_toInt64, nI_toInt ks2]) rfl) (fun _ => two_end ⟨rfl, hsame⟩) (fun hp3 => ?_)
  refine two_guard (c := inR p4 (-1) 7) (C_out_t rfl rfl) (C_out_f rfl rfl) (M_in_t rfl rfl) (M_in_f rfl rfl) (fun _ => two_end ⟨rfl, hsame⟩) (fun hp4 => ?_)
  obtain ⟨ka, ka1, ka2, rfl⟩ := inR_row hp0
  obtain ⟨kb, kb1, kb2, rfl⟩ := inR_row hp1
  obtain ⟨kc, kc0, kc1, kc2, rfl⟩ := inR_natA (a := ks) (b := 9999) hp3
  refine two_full (lim := 30) (cnt := 8) q2 q3 q1 (by decide) (by decide) (two_end ⟨rfl, hsame⟩) (fun hn => ?_)
  obtain ⟨x, hx1, hx2⟩ := C_add (len := 150) (lim := 30) (n := n 8) (w := 5) (cells := tc 9) (a := (nI ka)) (b := (nI kb)) (c := (nI ks)) (d := (nI kc)) (e := p4) hn (by decide) (by decide) (by decide) (by decide) (by decide)
  rw [q2]
  refine two_l hx1 ?_
  refine two_r (x := nI (n 8)) (by rw [← q3]; exact M_at (k := 8) (by decide)) ?_
  rw [show (1753 : Int32) = nI 1753 from rfl, show (5 : Int32) = nI 5 from rfl, pk_mul, nI_add]
  refine two_rt ?_
  refine two_r (M_set (by omega)) ?_
  refine two_r (M_setj (j := 1) (by omega)) ?_
  refine two_r (M_setj (j := 2) (by omega)) ?_
  refine two_r (M_setj (j := 3) (by omega)) ?_
  refine two_r (M_setj (j := 4) (by omega)) ?_
  refine two_r (M_one (c := 8) (n := n 8) (by decide) (by rw [pk_un (by omega), pk_un (by omega), pk_un (by omega), pk_un (by omega), pk_un (by omega)]; exact q3) (by omega)) ?_
  have hfr : ∀ k, k < 1951 → ¬ (1753 ≤ k ∧ k < 1903) → k ≠ 8 → (upd (upd (upd (upd (upd (upd st (1753 + 5 * n 8) (nI ka)) (1753 + 5 * n 8 + 1) (nI kb)) (1753 + 5 * n 8 + 2) (nI ks)) (1753 + 5 * n 8 + 3) (nI kc)) (1753 + 5 * n 8 + 4) p4) 8 (nI (n 8 + 1))) k = st k := fun k h1 h2 h3 => by rw [pk_un h3, pk_un (by omega), pk_un (by omega), pk_un (by omega), pk_un (by omega), pk_un (by omega)]
  have hrw : ∀ k, 1753 ≤ k → k < 1753 + 5 * n 8 → (upd (upd (upd (upd (upd (upd st (1753 + 5 * n 8) (nI ka)) (1753 + 5 * n 8 + 1) (nI kb)) (1753 + 5 * n 8 + 2) (nI ks)) (1753 + 5 * n 8 + 3) (nI kc)) (1753 + 5 * n 8 + 4) p4) 8 (nI (n 8 + 1))) k = st k := fun k h1 h2 => by rw [pk_un (by omega), pk_un (by omega), pk_un (by omega), pk_un (by omega), pk_un (by omega), pk_un (by omega)]
  refine two_end ⟨rfl, _, _, _, R_let (n := n) (m := n 8 + 1) (x := x) (y := nI (n 8 + 1)) (st2 := upd (upd (upd (upd (upd (upd st (1753 + 5 * n 8) (nI ka)) (1753 + 5 * n 8 + 1) (nI kb)) (1753 + 5 * n 8 + 2) (nI ks)) (1753 + 5 * n 8 + 3) (nI kc)) (1753 + 5 * n 8 + 4) p4) 8 (nI (n 8 + 1))) R hfr ?_⟩
  refine rT_add R.2.2.2.2.2.2.2.2.2.1 hn (by decide) (fun k hk => by rw [hx2, addC_old hk]) hrw pk_us (fun j hj => ?_) ?_
  · rw [hx2]
    unfold addC upd
    (repeat' split) <;> first | rfl | omega
  · have hv : ∀ j, j < 5 → rowf (upd (upd (upd (upd (upd (upd st (1753 + 5 * n 8) (nI ka)) (1753 + 5 * n 8 + 1) (nI kb)) (1753 + 5 * n 8 + 2) (nI ks)) (1753 + 5 * n 8 + 3) (nI kc)) (1753 + 5 * n 8 + 4) p4) 8 (nI (n 8 + 1))) 1753 5 (n 8) j = (upd (upd (upd (upd (upd (upd st (1753 + 5 * n 8) (nI ka)) (1753 + 5 * n 8 + 1) (nI kb)) (1753 + 5 * n 8 + 2) (nI ks)) (1753 + 5 * n 8 + 3) (nI kc)) (1753 + 5 * n 8 + 4) p4) 8 (nI (n 8 + 1))) (1753 + 5 * n 8 + j) := fun j hj => by unfold rowf; rw [if_pos hj]
    have v0 := hv 0 (by decide)
    rw [pk_un (by omega), pk_un (by omega), pk_un (by omega), pk_un (by omega), pk_un (by omega), Nat.add_zero (1753 + 5 * n 8), pk_us] at v0
    have v1 := hv 1 (by decide)
    rw [pk_un (by omega), pk_un (by omega), pk_un (by omega), pk_un (by omega), pk_us] at v1
    have v2 := hv 2 (by decide)
    rw [pk_un (by omega), pk_un (by omega), pk_un (by omega), pk_us] at v2
    have v3 := hv 3 (by decide)
    rw [pk_un (by omega), pk_un (by omega), pk_us] at v3
    have v4 := hv 4 (by decide)
    rw [pk_un (by omega), pk_us] at v4
    refine ⟨ka, kb, ks, kc, ka1, kb1, fun e => hne (by rw [e]), kc0, kc1, v0, v1, v2, v3, ?_⟩
    rw [v4]
    exact thing_of hp4
end OPS
