theorem addC_0 {f : Nat → Int32} {w n : Nat} {a b c d e : Int32} (h : 0 < w) : addC f w n a b c d e (w * n + 0) = a := by unfold addC; rw [if_pos ⟨by omega, by omega⟩, if_pos (by omega)]
theorem addC_1 {f : Nat → Int32} {w n : Nat} {a b c d e : Int32} (h : 1 < w) : addC f w n a b c d e (w * n + 1) = b := by unfold addC; rw [if_pos ⟨by omega, by omega⟩, if_neg (by omega), if_pos (by omega)]
theorem addC_2 {f : Nat → Int32} {w n : Nat} {a b c d e : Int32} (h : 2 < w) : addC f w n a b c d e (w * n + 2) = c := by unfold addC; rw [if_pos ⟨by omega, by omega⟩, if_neg (by omega), if_neg (by omega), if_pos (by omega)]
theorem addC_3 {f : Nat → Int32} {w n : Nat} {a b c d e : Int32} (h : 3 < w) : addC f w n a b c d e (w * n + 3) = d := by unfold addC; rw [if_pos ⟨by omega, by omega⟩, if_neg (by omega), if_neg (by omega), if_neg (by omega), if_pos (by omega)]
theorem addC_4 {f : Nat → Int32} {w n : Nat} {a b c d e : Int32} (h : 4 < w) : addC f w n a b c d e (w * n + 4) = e := by unfold addC; rw [if_pos ⟨by omega, by omega⟩, if_neg (by omega), if_neg (by omega), if_neg (by omega), if_neg (by omega), if_pos (by omega)]
theorem two_due {α β : Type} {p : Int32} {k : Nat} (hk : k ≤ 99) {A1 B1 : Option α} {A2 B2 : Option β} {P : α → β → Prop} (bad : Two B1 B2 P) (ok : inR p k 99 → Two A1 A2 P) : Two (Option.bind (F_X11_isOutOfSeasons p) fun v => if v = 0 then (if p < nI k then B1 else A1) else B1) (Option.bind (F_X12_in p.toInt64 (nI k).toInt64 99) fun v => if v = 0 then B2 else A2) P := by
  have e1 : ((nI k).toInt64).toInt = (k : Int) := by rw [Int32.toInt_toInt64, nI_toInt (by omega)]
  by_cases h : inR p k 99
  · refine two_l (C_season_t ⟨by have := h.1; omega, h.2⟩) (two_r (M_in_t e1 rfl h) ?_)
    refine two_ifl rfl (two_ifr' (by decide) (two_ifl' ?_ (ok h)))
    rw [Int32.lt_iff_toInt_lt, nI_toInt (by omega)]; have := h.1; omega
  · refine two_r (M_in_f e1 rfl h) (two_ifr rfl ?_)
    by_cases h2 : inR p 0 99
    · refine two_l (C_season_t h2) (two_ifl rfl (two_ifl ?_ bad))
      rw [Int32.lt_iff_toInt_lt, nI_toInt (by omega)]
      have := h2.2
      by_cases h3 : (k : Int) ≤ p.toInt
      · exact absurd ⟨h3, this⟩ h
      · omega
    · exact two_l (C_season_f h2) (two_ifl' (by decide) bad)
theorem M_weight_t {p : Int32} (h : inR p 1 1000000) : F_X12_isWeight p = some 1 := sbind (M_in_t rfl rfl h) (sbind bZ_1 rfl)
theorem M_weight_f {p : Int32} (h : ¬ inR p 1 1000000) : F_X12_isWeight p = some 0 := sbind (M_in_f rfl rfl h) (sbind bZ_0 rfl)
theorem C_noL_t {p w : Int32} {n : Nat} (hn : n < 2 ^ 31) (h : inR p 0 ((n : Int) - 1)) (h2 : inR w 1 1000000) : F_X11_isNoLoad (nI n) p w = some 0 := by
  unfold F_X11_isNoLoad
  refine sbind (C_noM_t hn h) ?_
  rw [if_pos rfl]
  refine sbind (sbind (C_out_t rfl rfl h2) (by rw [if_pos rfl])) (sbind bZ_0 rfl)
theorem C_noL_f {p w : Int32} {n : Nat} (hn : n < 2 ^ 31) (h : ¬ (inR p 0 ((n : Int) - 1) ∧ inR w 1 1000000)) : F_X11_isNoLoad (nI n) p w = some 1 := by
  unfold F_X11_isNoLoad
  by_cases h1 : inR p 0 ((n : Int) - 1)
  · refine sbind (C_noM_t hn h1) ?_
    rw [if_pos rfl]
    refine sbind (sbind (C_out_f rfl rfl (fun z => h ⟨h1, z⟩)) (by rw [if_neg (by decide)])) (sbind bZ_1 rfl)
  · refine sbind (C_noM_f hn h1) ?_
    rw [if_neg (by decide)]
    exact sbind rfl (sbind bZ_1 rfl)
theorem two_load {α β : Type} {p w rows : Int32} {n : Nat} {st : Nat → Int32} {A1 B1 : Option α} {A2 B2 : Option β} {P : α → β → Prop} (hr : rows = nI n) (hc : st 0 = nI n) (hn : n < 2 ^ 31) (bad : Two B1 B2 P) (ok : inR p 0 ((n : Int) - 1) → inR w 1 1000000 → Two A1 A2 P) : Two (Option.bind (F_X11_isNoLoad rows p w) fun v => if v = 0 then A1 else B1) (Option.bind (F_X12_is st 0 p) fun v => if v = 0 then B2 else (Option.bind (F_X12_isWeight w) fun v => if v = 0 then B2 else A2)) P := by
  subst hr
  by_cases h1 : inR p 0 ((n : Int) - 1)
  · refine two_r (M_is_t (c := 0) (by decide) hc hn h1) (two_ifr' (by decide) ?_)
    by_cases h2 : inR w 1 1000000
    · exact two_r (M_weight_t h2) (two_ifr' (by decide) (two_l (C_noL_t hn h1 h2) (two_ifl rfl (ok h1 h2))))
    · exact two_r (M_weight_f h2) (two_ifr rfl (two_l (C_noL_f hn (fun z => h2 z.2)) (two_ifl' (by decide) bad)))
  · exact two_r (M_is_f (c := 0) (by decide) hc hn h1) (two_ifr rfl (two_l (C_noL_f hn (fun z => h1 z.1)) (two_ifl' (by decide) bad)))
theorem two_pay {α β : Type} {s x : Int32} {l : Nat} {g1 g2 : Option Int32} (hl : l ≤ 99) (hg1 : g1 = some (nI l)) (hg2 : g2 = some (nI l)) {A1 B1 : Option α} {A2 B2 : Option β} {P : α → β → Prop} (bad : Two B1 B2 P) (ok : inR s l 99 → inR x 1 1000000 → Two A1 A2 P) : Two (Option.bind (F_X11_isOutOfSeasons s) fun v => if v = 0 then (Option.bind (F_X11_isOut x 1 1000000) fun v => if v = 0 then (Option.bind g1 fun c => if s < c then B1 else A1) else B1) else B1) (Option.bind g2 fun c => Option.bind (F_X12_in s.toInt64 c.toInt64 99) fun v => if v = 0 then B2 else (Option.bind (F_X12_in x.toInt64 1 1000000) fun v => if v = 0 then B2 else A2)) P := by
  have e1 : ((nI l).toInt64).toInt = (l : Int) := by rw [Int32.toInt_toInt64, nI_toInt (by omega)]
  refine two_r hg2 ?_
  by_cases h1 : inR s l 99
  · refine two_r (M_in_t e1 rfl h1) (two_ifr' (by decide) ?_)
    refine two_l (C_season_t ⟨by have := h1.1; omega, h1.2⟩) (two_ifl rfl ?_)
    by_cases h2 : inR x 1 1000000
    · refine two_r (M_in_t rfl rfl h2) (two_ifr' (by decide) (two_l (C_out_t rfl rfl h2) (two_ifl rfl (two_l hg1 (two_ifl' ?_ (ok h1 h2))))))
      rw [Int32.lt_iff_toInt_lt, nI_toInt (by omega)]; have := h1.1; omega
    · exact two_r (M_in_f rfl rfl h2) (two_ifr rfl (two_l (C_out_f rfl rfl h2) (two_ifl' (by decide) bad)))
  · refine two_r (M_in_f e1 rfl h1) (two_ifr rfl ?_)
    by_cases h2 : inR s 0 99
    · refine two_l (C_season_t h2) (two_ifl rfl ?_)
      by_cases h3 : inR x 1 1000000
      · refine two_l (C_out_t rfl rfl h3) (two_ifl rfl (two_l hg1 (two_ifl ?_ bad)))
        rw [Int32.lt_iff_toInt_lt, nI_toInt (by omega)]
        have := h2.2
        by_cases h4 : (l : Int) ≤ s.toInt
        · exact absurd ⟨h4, this⟩ h1
        · omega
      · exact two_l (C_out_f rfl rfl h3) (two_ifl' (by decide) bad)
    · exact two_l (C_season_f h2) (two_ifl' (by decide) bad)
theorem M_debtOf {st : Nat → Int32} {d j : Nat} (h : 1092 + 7 * d + j < 1951) : F_X12_debtOf st (nI d) (nI j) = some (st (1092 + 7 * d + j)) := by
  unfold F_X12_debtOf
  rw [show (1092 : Int32) = nI 1092 from rfl, show (7 : Int32) = nI 7 from rfl, pk_mul, nI_add, nI_add]
  exact sbind (M_at h) rfl
theorem rowf_at {st : Nat → Int32} {off wd i j : Nat} (h : j < wd) : rowf st off wd i j = st (off + wd * i + j) := by unfold rowf; rw [if_pos h]
section OPS
variable {AK : (Nat → Int32) → (Nat → Int32) → Prop} {tc : Nat → Nat → Int32} {tr : Nat → Int32} {nar nam : Int32} {st : Nat → Int32}
theorem P_debt (h : Rel AK tc tr nar nam st) (p0 p1 p2 p3 p4 : Int32) : Two (F_X11_debt (tc 3) (tr 3) (tr 0) p0 p1 p2 p3 p4) (F_X12_debt st p0 p1 p2 p3 p4) (fun o1 o2 => o1.1 = o2.1 ∧ Rel AK (va_up tc 3 o1.2.1) (va_up tr 3 o1.2.2) nar nam o2.2) := by
  have hsame := Rel_same h 3
  obtain ⟨n, a, b, R⟩ := h
  obtain ⟨⟨q1, q2, q3⟩, -, -⟩ := id R.2.2.2.1
  obtain ⟨⟨m1, m2, m3⟩, -, -⟩ := id R.1
  obtain ⟨u1, u2, u3, u4, u5, u6, u7, u8⟩ := id R.2.2.2.2.2.2.2.2.2.2.2.2.2
  refine two_guard (c := inR p0 0 (((n 0 : Nat) : Int) - 1)) (fun z => by rw [m2]; exact C_noM_t (by omega) z) (fun z => by rw [m2]; exact C_noM_f (by omega) z) (M_is_t (c := 0) (by decide) m3 (by omega)) (M_is_f (c := 0) (by decide) m3 (by omega)) (fun _ => two_end ⟨rfl, hsame⟩) (fun hp0 => ?_)
  refine two_guard (c := inR p1 0 (((n 0 : Nat) : Int) - 1)) (fun z => by rw [m2]; exact C_noM_t (by omega) z) (fun z => by rw [m2]; exact C_noM_f (by omega) z) (M_is_t (c := 0) (by decide) m3 (by omega)) (M_is_f (c := 0) (by decide) m3 (by omega)) (fun _ => two_end ⟨rfl, hsame⟩) (fun hp1 => ?_)
  refine two_if (fun _ => two_end ⟨rfl, hsame⟩) (fun hne => ?_)
  refine two_guard (c := inR p2 (1) 1000000) (C_out_t rfl rfl) (C_out_f rfl rfl) (M_in_t rfl rfl) (M_in_f rfl rfl) (fun _ => two_end ⟨rfl, hsame⟩) (fun hp2 => ?_)
  refine two_guard (c := inR p3 0 99) C_season_t C_season_f M_season_t M_season_f (fun _ => two_end ⟨rfl, hsame⟩) (fun hp3 => ?_)
  obtain ⟨kl, kl1, kl2, rfl⟩ := inR_nat (b := 99) hp3
  refine two_due (k := kl) kl1 (two_end ⟨rfl, hsame⟩) (fun hp4 => ?_)
  obtain ⟨ka, ka1, ka2, rfl⟩ := inR_row hp0
  obtain ⟨kb, kb1, kb2, rfl⟩ := inR_row hp1
  obtain ⟨ks, ks0, ks1, ks2, rfl⟩ := inR_natA (a := 1) (b := 1000000) hp2
  obtain ⟨kd, kd0, kd1, kd2, rfl⟩ := inR_natA (a := kl) (b := 99) hp4
  refine two_full (lim := 40) (cnt := 2) q2 q3 q1 (by decide) (by decide) (two_end ⟨rfl, hsame⟩) (fun hn => ?_)
  obtain ⟨x, hx1, hx2⟩ := C_add (len := 280) (lim := 40) (n := n 2) (w := 7) (cells := tc 3) (a := (nI ka)) (b := (nI kb)) (c := (nI ks)) (d := (nI kl)) (e := (nI kd)) hn (by decide) (by decide) (by decide) (by decide) (by decide)
  rw [q2]
  refine two_l hx1 ?_
  refine two_l (C_set (len := 280) (rows := n 2 + 1) (wd := 7) (r := n 2) (c := 5) (by omega) (by decide) (by omega) (by decide) (by omega) (by decide)) ?_
  refine two_l (C_set (len := 280) (rows := n 2 + 1) (wd := 7) (r := n 2) (c := 6) (by omega) (by decide) (by omega) (by decide) (by omega) (by decide)) ?_
  refine two_r (x := nI (n 2)) (by rw [← q3]; exact M_at (k := 2) (by decide)) ?_
  rw [show (1092 : Int32) = nI 1092 from rfl, show (7 : Int32) = nI 7 from rfl, pk_mul, nI_add]
  refine two_rt ?_
  refine two_r (M_set (by omega)) ?_
  refine two_r (M_setj (j := 1) (by omega)) ?_
  refine two_r (M_setj (j := 2) (by omega)) ?_
  refine two_r (M_setj (j := 3) (by omega)) ?_
  refine two_r (M_setj (j := 4) (by omega)) ?_
  refine two_r (M_setj (j := 5) (by omega)) ?_
  refine two_r (M_setj (j := 6) (by omega)) ?_
  refine two_r (M_one (c := 2) (n := n 2) (by decide) (by rw [pk_un (by omega), pk_un (by omega), pk_un (by omega), pk_un (by omega), pk_un (by omega), pk_un (by omega), pk_un (by omega)]; exact q3) (by omega)) ?_
  have hfr : ∀ k, k < 1951 → ¬ (1092 ≤ k ∧ k < 1372) → k ≠ 2 → (upd (upd (upd (upd (upd (upd (upd (upd st (1092 + 7 * n 2) (nI ka)) (1092 + 7 * n 2 + 1) (nI kb)) (1092 + 7 * n 2 + 2) (nI ks)) (1092 + 7 * n 2 + 3) (nI kl)) (1092 + 7 * n 2 + 4) (nI kd)) (1092 + 7 * n 2 + 5) (-1 : Int32)) (1092 + 7 * n 2 + 6) (-1 : Int32)) 2 (nI (n 2 + 1))) k = st k := fun k h1 h2 h3 => by rw [pk_un h3, pk_un (by omega), pk_un (by omega), pk_un (by omega), pk_un (by omega), pk_un (by omega), pk_un (by omega), pk_un (by omega)]
  have hrw : ∀ k, 1092 ≤ k → k < 1092 + 7 * n 2 → (upd (upd (upd (upd (upd (upd (upd (upd st (1092 + 7 * n 2) (nI ka)) (1092 + 7 * n 2 + 1) (nI kb)) (1092 + 7 * n 2 + 2) (nI ks)) (1092 + 7 * n 2 + 3) (nI kl)) (1092 + 7 * n 2 + 4) (nI kd)) (1092 + 7 * n 2 + 5) (-1 : Int32)) (1092 + 7 * n 2 + 6) (-1 : Int32)) 2 (nI (n 2 + 1))) k = st k := fun k h1 h2 => by rw [pk_un (by omega), pk_un (by omega), pk_un (by omega), pk_un (by omega), pk_un (by omega), pk_un (by omega), pk_un (by omega), pk_un (by omega)]
  refine two_end ⟨rfl, _, _, _, R_deb (n := n) (m := n 2 + 1) (x := (upd (upd x (7 * n 2 + 5) ((-1 : Int32))) (7 * n 2 + 6) ((-1 : Int32)))) (y := nI (n 2 + 1)) (st2 := upd (upd (upd (upd (upd (upd (upd (upd st (1092 + 7 * n 2) (nI ka)) (1092 + 7 * n 2 + 1) (nI kb)) (1092 + 7 * n 2 + 2) (nI ks)) (1092 + 7 * n 2 + 3) (nI kl)) (1092 + 7 * n 2 + 4) (nI kd)) (1092 + 7 * n 2 + 5) (-1 : Int32)) (1092 + 7 * n 2 + 6) (-1 : Int32)) 2 (nI (n 2 + 1))) R hfr ?_ (by omega)⟩
  refine rT_add R.2.2.2.1 hn (by decide) (fun k hk => by rw [pk_un (by omega), pk_un (by omega), hx2, addC_old hk]) hrw pk_us (fun j hj => ?_) ?_
  · rcases (show j = 0 ∨ j = 1 ∨ j = 2 ∨ j = 3 ∨ j = 4 ∨ j = 5 ∨ j = 6 by omega) with rfl | rfl | rfl | rfl | rfl | rfl | rfl
    · exact Eq.trans (b := (nI ka)) (by rw [pk_un (by omega), pk_un (by omega), hx2, addC_0 (by decide)]) (by rw [pk_un (by omega), pk_un (by omega), pk_un (by omega), pk_un (by omega), pk_un (by omega), pk_un (by omega), pk_un (by omega), Nat.add_zero (1092 + 7 * n 2), pk_us])
    · exact Eq.trans (b := (nI kb)) (by rw [pk_un (by omega), pk_un (by omega), hx2, addC_1 (by decide)]) (by rw [pk_un (by omega), pk_un (by omega), pk_un (by omega), pk_un (by omega), pk_un (by omega), pk_un (by omega), pk_us])
    · exact Eq.trans (b := (nI ks)) (by rw [pk_un (by omega), pk_un (by omega), hx2, addC_2 (by decide)]) (by rw [pk_un (by omega), pk_un (by omega), pk_un (by omega), pk_un (by omega), pk_un (by omega), pk_us])
    · exact Eq.trans (b := (nI kl)) (by rw [pk_un (by omega), pk_un (by omega), hx2, addC_3 (by decide)]) (by rw [pk_un (by omega), pk_un (by omega), pk_un (by omega), pk_un (by omega), pk_us])
    · exact Eq.trans (b := (nI kd)) (by rw [pk_un (by omega), pk_un (by omega), hx2, addC_4 (by decide)]) (by rw [pk_un (by omega), pk_un (by omega), pk_un (by omega), pk_us])
    · exact Eq.trans (b := (-1 : Int32)) (by rw [pk_un (by omega), pk_us]) (by rw [pk_un (by omega), pk_un (by omega), pk_us])
    · exact Eq.trans (b := (-1 : Int32)) (by rw [pk_us]) (by rw [pk_un (by omega), pk_us])
  · have hv : ∀ j, j < 7 → rowf (upd (upd (upd (upd (upd (upd (upd (upd st (1092 + 7 * n 2) (nI ka)) (1092 + 7 * n 2 + 1) (nI kb)) (1092 + 7 * n 2 + 2) (nI ks)) (1092 + 7 * n 2 + 3) (nI kl)) (1092 + 7 * n 2 + 4) (nI kd)) (1092 + 7 * n 2 + 5) (-1 : Int32)) (1092 + 7 * n 2 + 6) (-1 : Int32)) 2 (nI (n 2 + 1))) 1092 7 (n 2) j = (upd (upd (upd (upd (upd (upd (upd (upd st (1092 + 7 * n 2) (nI ka)) (1092 + 7 * n 2 + 1) (nI kb)) (1092 + 7 * n 2 + 2) (nI ks)) (1092 + 7 * n 2 + 3) (nI kl)) (1092 + 7 * n 2 + 4) (nI kd)) (1092 + 7 * n 2 + 5) (-1 : Int32)) (1092 + 7 * n 2 + 6) (-1 : Int32)) 2 (nI (n 2 + 1))) (1092 + 7 * n 2 + j) := fun j hj => by unfold rowf; rw [if_pos hj]
    have v0 := hv 0 (by decide)
    rw [pk_un (by omega), pk_un (by omega), pk_un (by omega), pk_un (by omega), pk_un (by omega), pk_un (by omega), pk_un (by omega), Nat.add_zero (1092 + 7 * n 2), pk_us] at v0
    have v1 := hv 1 (by decide)
    rw [pk_un (by omega), pk_un (by omega), pk_un (by omega), pk_un (by omega), pk_un (by omega), pk_un (by omega), pk_us] at v1
    have v2 := hv 2 (by decide)
    rw [pk_un (by omega), pk_un (by omega), pk_un (by omega), pk_un (by omega), pk_un (by omega), pk_us] at v2
    have v3 := hv 3 (by decide)
    rw [pk_un (by omega), pk_un (by omega), pk_un (by omega), pk_un (by omega), pk_us] at v3
    have v4 := hv 4 (by decide)
    rw [pk_un (by omega), pk_un (by omega), pk_un (by omega), pk_us] at v4
    have v5 := hv 5 (by decide)
    rw [pk_un (by omega), pk_un (by omega), pk_us] at v5
    have v6 := hv 6 (by decide)
    rw [pk_un (by omega), pk_us] at v6
    exact ⟨ka, kb, ks, kl, kd, ka1, kb1, fun e => hne (by rw [e]), v0, v1, ks0, ks1, v2, kd0, kd1, v3, v4, Or.inl v5, Or.inl v6⟩
theorem P_load (h : Rel AK tc tr nar nam st) (p0 p1 p2 : Int32) : Two (F_X11_load (tc 11) (tr 11) (tr 0) p0 p1 p2) (F_X12_load st p0 p1 p2) (fun o1 o2 => o1.1 = o2.1 ∧ Rel AK (va_up tc 11 o1.2.1) (va_up tr 11 o1.2.2) nar nam o2.2) := by
  have hsame := Rel_same h 11
  obtain ⟨n, a, b, R⟩ := h
  obtain ⟨⟨q1, q2, q3⟩, -, -⟩ := id R.2.2.2.2.2.2.2.2.2.2.2.1
  obtain ⟨⟨m1, m2, m3⟩, -, -⟩ := id R.1
  obtain ⟨u1, u2, u3, u4, u5, u6, u7, u8⟩ := id R.2.2.2.2.2.2.2.2.2.2.2.2.2
  refine two_load m2 m3 (by omega) (two_end ⟨rfl, hsame⟩) (fun hp0 hp1 => ?_)
  refine two_guard (c := inR p2 (0) 1000000) (C_out_t rfl rfl) (C_out_f rfl rfl) (M_in_t rfl rfl) (M_in_f rfl rfl) (fun _ => two_end ⟨rfl, hsame⟩) (fun hp2 => ?_)
  obtain ⟨ka, ka1, ka2, rfl⟩ := inR_row hp0
  obtain ⟨kw, kw0, kw1, kw2, rfl⟩ := inR_natA (a := 1) (b := 1000000) hp1
  obtain ⟨kc, kc1, kc2, rfl⟩ := inR_nat (b := 1000000) hp2
  refine two_full (lim := 6) (cnt := 10) q2 q3 q1 (by decide) (by decide) (two_end ⟨rfl, hsame⟩) (fun hn => ?_)
  obtain ⟨x, hx1, hx2⟩ := C_add (len := 18) (lim := 6) (n := n 10) (w := 3) (cells := tc 11) (a := (nI ka)) (b := (nI kw)) (c := (nI kc)) (d := 0) (e := 0) hn (by decide) (by decide) (by decide) (by decide) (by decide)
  rw [q2]
  refine two_l hx1 ?_
  refine two_r (x := nI (n 10)) (by rw [← q3]; exact M_at (k := 10) (by decide)) ?_
  rw [show (1933 : Int32) = nI 1933 from rfl, show (3 : Int32) = nI 3 from rfl, pk_mul, nI_add]
  refine two_rt ?_
  refine two_r (M_set (by omega)) ?_
  refine two_r (M_setj (j := 1) (by omega)) ?_
  refine two_r (M_setj (j := 2) (by omega)) ?_
  refine two_r (M_one (c := 10) (n := n 10) (by decide) (by rw [pk_un (by omega), pk_un (by omega), pk_un (by omega)]; exact q3) (by omega)) ?_
  have hfr : ∀ k, k < 1951 → ¬ (1933 ≤ k ∧ k < 1951) → k ≠ 10 → (upd (upd (upd (upd st (1933 + 3 * n 10) (nI ka)) (1933 + 3 * n 10 + 1) (nI kw)) (1933 + 3 * n 10 + 2) (nI kc)) 10 (nI (n 10 + 1))) k = st k := fun k h1 h2 h3 => by rw [pk_un h3, pk_un (by omega), pk_un (by omega), pk_un (by omega)]
  have hrw : ∀ k, 1933 ≤ k → k < 1933 + 3 * n 10 → (upd (upd (upd (upd st (1933 + 3 * n 10) (nI ka)) (1933 + 3 * n 10 + 1) (nI kw)) (1933 + 3 * n 10 + 2) (nI kc)) 10 (nI (n 10 + 1))) k = st k := fun k h1 h2 => by rw [pk_un (by omega), pk_un (by omega), pk_un (by omega), pk_un (by omega)]
  refine two_end ⟨rfl, _, _, _, R_loa (n := n) (m := n 10 + 1) (x := x) (y := nI (n 10 + 1)) (st2 := upd (upd (upd (upd st (1933 + 3 * n 10) (nI ka)) (1933 + 3 * n 10 + 1) (nI kw)) (1933 + 3 * n 10 + 2) (nI kc)) 10 (nI (n 10 + 1))) R hfr ?_⟩
  refine rT_add R.2.2.2.2.2.2.2.2.2.2.2.1 hn (by decide) (fun k hk => by rw [hx2, addC_old hk]) hrw pk_us (fun j hj => ?_) ?_
  · rw [hx2]
    unfold addC upd
    (repeat' split) <;> first | rfl | omega
  · have hv : ∀ j, j < 3 → rowf (upd (upd (upd (upd st (1933 + 3 * n 10) (nI ka)) (1933 + 3 * n 10 + 1) (nI kw)) (1933 + 3 * n 10 + 2) (nI kc)) 10 (nI (n 10 + 1))) 1933 3 (n 10) j = (upd (upd (upd (upd st (1933 + 3 * n 10) (nI ka)) (1933 + 3 * n 10 + 1) (nI kw)) (1933 + 3 * n 10 + 2) (nI kc)) 10 (nI (n 10 + 1))) (1933 + 3 * n 10 + j) := fun j hj => by unfold rowf; rw [if_pos hj]
    have v0 := hv 0 (by decide)
    rw [pk_un (by omega), pk_un (by omega), pk_un (by omega), Nat.add_zero (1933 + 3 * n 10), pk_us] at v0
    have v1 := hv 1 (by decide)
    rw [pk_un (by omega), pk_un (by omega), pk_us] at v1
    have v2 := hv 2 (by decide)
    rw [pk_un (by omega), pk_us] at v2
    exact ⟨ka, kw, kc, ka1, kw0, kw1, kc1, v0, v1, v2⟩
theorem P_pay (h : Rel AK tc tr nar nam st) (p0 p1 p2 : Int32) : Two (F_X11_pay (tc 3) (tr 3) (tc 4) (tr 4) p0 p1 p2) (F_X12_pay st p0 p1 p2) (fun o1 o2 => o1.1 = o2.1 ∧ Rel AK (va_up tc 4 o1.2.1) (va_up tr 4 o1.2.2) nar nam o2.2) := by
  have hsame := Rel_same h 4
  obtain ⟨n, a, b, R⟩ := h
  obtain ⟨⟨q1, q2, q3⟩, -, -⟩ := id R.2.2.2.2.1
  obtain ⟨⟨m1, m2, m3⟩, -, -⟩ := id R.1
  obtain ⟨u1, u2, u3, u4, u5, u6, u7, u8⟩ := id R.2.2.2.2.2.2.2.2.2.2.2.2.2
  obtain ⟨⟨d1, d2, d3⟩, dT, dQ⟩ := id R.2.2.2.1
  refine two_guard (c := inR p0 0 (((n 2 : Nat) : Int) - 1)) (fun z => by rw [d2]; exact C_noD_t (by omega) z) (fun z => by rw [d2]; exact C_noD_f (by omega) z) (M_is_t (c := 2) (by decide) d3 (by omega)) (M_is_f (c := 2) (by decide) d3 (by omega)) (fun _ => two_end ⟨rfl, hsame⟩) (fun hp0 => ?_)
  obtain ⟨kd, kd1, kd2, rfl⟩ := inR_row hp0
  obtain ⟨-, -, -, l, dd, -, -, -, -, -, -, -, -, hld, hdd, hl3, -, -, -⟩ := dQ kd kd1
  rw [rowf_at (by decide)] at hl3
  refine two_pay (l := l) (by omega) (by rw [d2]; exact (C_get (len := 280) (wd := 7) (c := 3) kd1 (by decide) (by omega) (by decide) (by omega) (by decide)).trans (congrArg some ((dT kd 3 kd1 (by decide)).trans hl3))) ((M_debtOf (j := 3) (by omega)).trans (congrArg some hl3)) (two_end ⟨rfl, hsame⟩) (fun hp1 hp2 => ?_)
  obtain ⟨ks, ks0, ks1, ks2, rfl⟩ := inR_natA (a := l) (b := 99) hp1
  obtain ⟨kx, kx0, kx1, kx2, rfl⟩ := inR_natA (a := 1) (b := 1000000) hp2
  refine two_full (lim := 60) (cnt := 3) q2 q3 q1 (by decide) (by decide) (two_end ⟨rfl, hsame⟩) (fun hn => ?_)
  obtain ⟨x, hx1, hx2⟩ := C_add (len := 180) (lim := 60) (n := n 3) (w := 3) (cells := tc 4) (a := (nI kd)) (b := (nI ks)) (c := (nI kx)) (d := 0) (e := 0) hn (by decide) (by decide) (by decide) (by decide) (by decide)
  rw [q2]
  refine two_l hx1 ?_
  refine two_r (x := nI (n 3)) (by rw [← q3]; exact M_at (k := 3) (by decide)) ?_
  rw [show (1372 : Int32) = nI 1372 from rfl, show (3 : Int32) = nI 3 from rfl, pk_mul, nI_add]
  refine two_rt ?_
  refine two_r (M_set (by omega)) ?_
  refine two_r (M_setj (j := 1) (by omega)) ?_
  refine two_r (M_setj (j := 2) (by omega)) ?_
  refine two_r (M_one (c := 3) (n := n 3) (by decide) (by rw [pk_un (by omega), pk_un (by omega), pk_un (by omega)]; exact q3) (by omega)) ?_
  have hfr : ∀ k, k < 1951 → ¬ (1372 ≤ k ∧ k < 1552) → k ≠ 3 → (upd (upd (upd (upd st (1372 + 3 * n 3) (nI kd)) (1372 + 3 * n 3 + 1) (nI ks)) (1372 + 3 * n 3 + 2) (nI kx)) 3 (nI (n 3 + 1))) k = st k := fun k h1 h2 h3 => by rw [pk_un h3, pk_un (by omega), pk_un (by omega), pk_un (by omega)]
  have hrw : ∀ k, 1372 ≤ k → k < 1372 + 3 * n 3 → (upd (upd (upd (upd st (1372 + 3 * n 3) (nI kd)) (1372 + 3 * n 3 + 1) (nI ks)) (1372 + 3 * n 3 + 2) (nI kx)) 3 (nI (n 3 + 1))) k = st k := fun k h1 h2 => by rw [pk_un (by omega), pk_un (by omega), pk_un (by omega), pk_un (by omega)]
  refine two_end ⟨rfl, _, _, _, R_pay (n := n) (m := n 3 + 1) (x := x) (y := nI (n 3 + 1)) (st2 := upd (upd (upd (upd st (1372 + 3 * n 3) (nI kd)) (1372 + 3 * n 3 + 1) (nI ks)) (1372 + 3 * n 3 + 2) (nI kx)) 3 (nI (n 3 + 1))) R hfr ?_⟩
  refine rT_add R.2.2.2.2.1 hn (by decide) (fun k hk => by rw [hx2, addC_old hk]) hrw pk_us (fun j hj => ?_) ?_
  · rw [hx2]
    unfold addC upd
    (repeat' split) <;> first | rfl | omega
  · have hv : ∀ j, j < 3 → rowf (upd (upd (upd (upd st (1372 + 3 * n 3) (nI kd)) (1372 + 3 * n 3 + 1) (nI ks)) (1372 + 3 * n 3 + 2) (nI kx)) 3 (nI (n 3 + 1))) 1372 3 (n 3) j = (upd (upd (upd (upd st (1372 + 3 * n 3) (nI kd)) (1372 + 3 * n 3 + 1) (nI ks)) (1372 + 3 * n 3 + 2) (nI kx)) 3 (nI (n 3 + 1))) (1372 + 3 * n 3 + j) := fun j hj => by unfold rowf; rw [if_pos hj]
    have v0 := hv 0 (by decide)
    rw [pk_un (by omega), pk_un (by omega), pk_un (by omega), Nat.add_zero (1372 + 3 * n 3), pk_us] at v0
    have v1 := hv 1 (by decide)
    rw [pk_un (by omega), pk_un (by omega), pk_us] at v1
    have v2 := hv 2 (by decide)
    rw [pk_un (by omega), pk_us] at v2
    exact ⟨kd, ks, kx, kd1, ks1, kx0, kx1, v0, v1, v2⟩
end OPS
