/-! PURE LAWS 17: act -/
theorem itr_cnt' {S T : Type} {f : S → Option (S ⊕ T)} (st : Nat → S) (s0 : S) (t : T) (k : Nat) (h0 : s0 = st 0) (hs : ∀ i, i < k → f (st i) = some (.inl (st (i + 1)))) (hx : f (st k) = some (.inr t)) (hk : k < 1000000000000) : itr f FU s0 = some t := by rw [h0]; exact itr_cnt st t k hs hx hk
section ACT
variable {tc : Nat → Nat → Int32} {tr : Nat → Int32} {nar nam : Int32} {st : Nat → Int32}
theorem C_inscribe {cells tcells codes : Nat → Int32} {n t len k : Nat} {tx : Nat → Int32} (hn : n < 16) (ht : t < 4) (hl : len ≤ 50) (hk : k ≤ 50) (hT : ∀ j, j ≤ len → tcells (51 * t + j) = if j = 0 then nI len else tx (j - 1)) :
    F_X1_inscribe codes (nI k) cells (nI (n + 1)) tcells (nI 4) (nI n) (nI t) = some (emit (upd (emit (upd cells (104 * n + 2) (nI len)) (104 * n + 3) tx len) (104 * n + 53) (nI k)) (104 * n + 54) codes k) := by
  unfold F_X1_inscribe
  have hget : ∀ j, j ≤ len → F_X8_get 204 tcells (nI 4) 51 (nI t) (nI j) = some (if j = 0 then nI len else tx (j - 1)) := fun j hj => (C_get (len := 204) (wd := 51) ht (by omega) (by decide) (by decide) (by decide) (by decide)).trans (congrArg some (hT j hj))
  have hset : ∀ (f : Nat → Int32) (j : Nat) (x : Int32), j < 104 → F_X8_set 1664 f (nI (n + 1)) 104 (nI n) (nI j) x = some (upd f (104 * n + j) x) := fun f j x hj => C_set (len := 1664) (wd := 104) (Nat.lt_succ_self n) hj (by omega) (by decide) (by omega) (by decide)
  refine sbind (hget 0 (by omega)) ?_
  rw [if_pos rfl]
  refine sbind (hset cells 2 (nI len) (by decide)) ?_
  refine sbind (itr_cnt' (fun j => (nI (1 + j), emit (upd cells (104 * n + 2) (nI len)) (104 * n + 3) tx j)) _ (nI (1 + len), emit (upd cells (104 * n + 2) (nI len)) (104 * n + 3) tx len) len (by show _ = (nI (1 + 0), emit _ _ _ 0); rw [emit_0]; rfl) (fun j hj => ?_) ?_ (by omega)) ?_
  · unfold B_X1_inscribe_31
    dsimp only
    rw [if_neg (nI_nlt (by omega) (by omega))]
    refine sbind (hget (1 + j) (by omega)) ?_
    rw [if_neg (by omega), show 1 + j - 1 = j by omega, show (2 : Int32) = nI 2 from rfl, nI_add]
    refine sbind (hset _ _ _ (by omega)) ?_
    rw [lt_eq, nI_1, show 104 * n + (2 + (1 + j)) = 104 * n + 3 + j by omega, emit_s]
    rfl
  · unfold B_X1_inscribe_31
    dsimp only
    rw [if_pos (nI_lt (by omega) (by omega))]
  dsimp only
  refine sbind (hset _ 53 (nI k) (by decide)) ?_
  refine sbind (itr_cnt' (fun j => (nI j, emit (upd (emit (upd cells (104 * n + 2) (nI len)) (104 * n + 3) tx len) (104 * n + 53) (nI k)) (104 * n + 54) codes j)) _ (nI k, emit (upd (emit (upd cells (104 * n + 2) (nI len)) (104 * n + 3) tx len) (104 * n + 53) (nI k)) (104 * n + 54) codes k) k (by show _ = (nI 0, emit _ _ _ 0); rw [emit_0]; rfl) (fun j hj => ?_) ?_ (by omega)) rfl
  · unfold B_X1_inscribe_92
    dsimp only
    rw [if_pos (nI_lt hj (by omega)), if_pos (ltR 50 50 rfl (by omega) (by decide))]
    refine sbind (gI_at (by omega) (by decide)) ?_
    rw [show (54 : Int32) = nI 54 from rfl, nI_add]
    refine sbind (hset _ _ _ (by omega)) ?_
    rw [lt_eq, nI_1, ← Nat.add_assoc, emit_s]
  · unfold B_X1_inscribe_92
    dsimp only
    rw [if_neg (nI_nlt (Nat.le_refl _) (by omega))]
theorem M_copy {g : Nat → Int32} {t n : Nat} (ht : t < 4) (hn : n < 16) : itr (B_X12_act_97 (nI t) (nI (244 + 53 * n))) FU ((0 : Int32), g) = some (nI 51, emit g (244 + 53 * n + 2) (fun j => g (40 + 51 * t + j)) 51) := by
  refine itr_cnt' (fun j => (nI j, emit g (244 + 53 * n + 2) (fun j => g (40 + 51 * t + j)) j)) _ _ 51 (by show _ = (nI 0, emit _ _ _ 0); rw [emit_0]; rfl) (fun j hj => ?_) ?_ (by omega)
  · unfold B_X12_act_97
    dsimp only
    rw [if_pos (ltR 51 51 rfl hj (by decide)), show (40 : Int32) = nI 40 from rfl, show (51 : Int32) = nI 51 from rfl, show (2 : Int32) = nI 2 from rfl, pk_mul, nI_add, nI_add, nI_add, nI_add]
    refine sbind (M_at (by omega)) (sbind (M_set (by omega)) ?_)
    rw [emit_out (by omega), lt_eq, nI_1, emit_s (x := fun j => g (40 + 51 * t + j))]
  · unfold B_X12_act_97
    dsimp only
    rw [if_neg (nltR 51 51 rfl (by omega) (by decide))]
theorem P_act (h : Rel actK tc tr nar nam st) (codes : Nat → Int32) (count digits fault fd nb op du : Int32) (waiting : Nat → Int32) (wts : Int32) (step : Nat → Int32) (steps mw : Int32) (waits wth : Nat → Int32) (p0 p1 p2 : Int32) :
    Two (F_X11_act (tc 2) (tr 2) (tc 1) (tr 1) codes count digits fault fd nb op du waiting wts p0 p1 p2) (F_X12_act st step steps mw waits wth p0 p1 p2) (fun o1 o2 => o1.1 = o2.1 ∧ Rel actK (va_up tc 2 o1.2.1) (va_up tr 2 o1.2.2.1) nar nam o2.2.1) := by
  have hsame := Rel_same h 2
  obtain ⟨n, a, b, R⟩ := h
  obtain ⟨⟨q1, q2, q3⟩, qQ⟩ := id R.2.2.1
  refine two_guard (c := inR p0 0 3) (C_out_t rfl rfl) (C_out_f rfl rfl) M_isText_t M_isText_f (fun _ => two_end ⟨rfl, hsame⟩) (fun h0 => ?_)
  refine two_guard (c := inR p1 0 2) (C_out_t rfl rfl) (C_out_f rfl rfl) (M_in_t rfl rfl) (M_in_f rfl rfl) (fun _ => two_end ⟨rfl, hsame⟩) (fun h1 => ?_)
  refine two_guard (c := inR p2 0 99) C_season_t C_season_f M_season_t M_season_f (fun _ => two_end ⟨rfl, hsame⟩) (fun h2 => ?_)
  obtain ⟨t, t1, t2, rfl⟩ := inR_nat (b := 3) h0
  have ht : t < 4 := by omega
  refine two_bind (P := fun o1 o2 => o1.1 = o2.1 ∧ (o1.1 = -1 → ∃ k : Nat, k ≤ 50 ∧ o1.2.2.1 = nI k ∧ o2.2.2.1 = nI k ∧ KD o1.2.1 o2.2.1 o2.2.2.2.2.2 k 1) ∧ F_X7_read 204 (tc 1) (tr 1) 51 codes count digits fault fd nb op du waiting wts (nI t) = some o1) ?_ ?_
  · obtain ⟨o1, o2, e1, e2, e3, e4⟩ := T_read R.2.1 (t := t) (by omega) codes count digits fault fd nb op du waiting wts step steps mw waits wth
    exact ⟨o1, o2, e1, e2, e3, e4, e1⟩
  rintro o1 o2 ⟨e1, e2, e3⟩
  by_cases hf : o1.1 = -1
  rotate_left
  · exact two_ifl' hf (two_ifr' (by rw [← e1]; exact hf) (two_end ⟨rfl, hsame⟩))
  refine two_ifl hf (two_ifr (by rw [← e1]; exact hf) ?_)
  obtain ⟨k, k1, k2, -, -⟩ := e2 hf
  refine two_full (lim := 16) (cnt := 1) q2 q3 q1 (by decide) (by decide) (two_end ⟨rfl, hsame⟩) (fun hn => ?_)
  obtain ⟨x, hx1, hx2⟩ := C_add (len := 1664) (lim := 16) (n := n 1) (w := 104) (cells := tc 2) (a := p1) (b := p2) (c := 0) (d := 0) (e := 0) hn (by decide) (by decide) (by decide) (by decide) (by decide)
  obtain ⟨len, hlen, hlen2⟩ := R.2.1.2.2 t ht
  have hT : ∀ j, j ≤ len → tc 1 (51 * t + j) = if j = 0 then nI len else (fun i => st (40 + 51 * t + (1 + i))) (j - 1) := by
    intro j hj
    rw [R.2.1.2.1 t j ht (by omega)]
    by_cases e : j = 0
    · subst e; rw [if_pos rfl]; exact hlen2
    · rw [if_neg e]
      show _ = st (40 + 51 * t + (1 + (j - 1)))
      rw [show 1 + (j - 1) = j by omega]
  rw [q2]
  refine two_l hx1 (two_l (by rw [k2, R.2.1.1]; exact C_inscribe (tx := fun i => st (40 + 51 * t + (1 + i))) hn ht hlen k1 hT) ?_)
  refine two_r (x := nI (n 1)) (by rw [← q3]; exact M_at (k := 1) (by decide)) ?_
  rw [show (244 : Int32) = nI 244 from rfl, show (53 : Int32) = nI 53 from rfl, pk_mul, nI_add]
  refine two_rt (two_r (M_set (by omega)) (two_r (M_setj (j := 1) (by omega)) (two_r (M_copy ht hn) ?_)))
  obtain ⟨g9, hg9⟩ : ∃ g9, g9 = upd (upd st (244 + 53 * n 1) p1) (244 + 53 * n 1 + 1) p2 := ⟨_, rfl⟩
  rw [← hg9]
  have h9 : ∀ j, j ≠ 244 + 53 * n 1 → j ≠ 244 + 53 * n 1 + 1 → g9 j = st j := fun j h1 h2 => by rw [hg9, pk_un h2, pk_un h1]
  refine two_r (M_one (c := 1) (n := n 1) (by decide) (by dsimp only; rw [emit_out (by omega), h9 _ (by omega) (by omega)]; exact q3) (by omega)) ?_
  obtain ⟨g, hg⟩ : ∃ g, g = upd (emit g9 (244 + 53 * n 1 + 2) (fun j => g9 (40 + 51 * t + j)) 51) 1 (nI (n 1 + 1)) := ⟨_, rfl⟩
  have hgo : ∀ k, ¬ (244 + 53 * n 1 ≤ k ∧ k < 244 + 53 * n 1 + 53) → k ≠ 1 → g k = st k := fun k h1 h2 => by
    rw [hg, pk_un h2]
    unfold emit
    rw [if_neg (by omega), h9 _ (by omega) (by omega)]
  have hg0 : g (244 + 53 * n 1) = p1 := by
    rw [hg, pk_un (by omega), emit_out (by omega), hg9, pk_un (by omega), pk_us]
  have hg1 : g (244 + 53 * n 1 + 1) = p2 := by
    rw [hg, pk_un (by omega), emit_out (by omega), hg9, pk_us]
  have hgt : ∀ j, j < 51 → g (244 + 53 * n 1 + (2 + j)) = st (40 + 51 * t + j) := fun j hj => by
    rw [hg, pk_un (by omega), show 244 + 53 * n 1 + (2 + j) = 244 + 53 * n 1 + 2 + j by omega, emit_in hj, h9 _ (by omega) (by omega)]
  obtain ⟨y, hy⟩ : ∃ y, y = emit (upd (emit (upd x (104 * n 1 + 2) (nI len)) (104 * n 1 + 3) (fun i => st (40 + 51 * t + (1 + i))) len) (104 * n 1 + 53) (nI k)) (104 * n 1 + 54) o1.2.1 k := ⟨_, rfl⟩
  have hyo : ∀ k, k < 104 * n 1 → y k = tc 2 k := fun k hk => by
    rw [hy, emit_out (by omega), pk_un (by omega), emit_out (by omega), pk_un (by omega), hx2, addC_old hk]
  have hy0 : y (104 * n 1) = p1 := by
    rw [hy, emit_out (by omega), pk_un (by omega), emit_out (by omega), pk_un (by omega), hx2]
    exact addC_0 (w := 104) (by decide)
  have hy1 : y (104 * n 1 + 1) = p2 := by
    rw [hy, emit_out (by omega), pk_un (by omega), emit_out (by omega), pk_un (by omega), hx2, addC_1 (by decide)]
  have hy2 : y (104 * n 1 + 2) = nI len := by
    rw [hy, emit_out (by omega), pk_un (by omega), emit_out (by omega), pk_us]
  have hyt : ∀ j, j < len → y (104 * n 1 + (3 + j)) = st (40 + 51 * t + (1 + j)) := fun j hj => by
    rw [hy, emit_out (by omega), pk_un (by omega), show 104 * n 1 + (3 + j) = 104 * n 1 + 3 + j by omega, emit_in hj]
  have hyk : y (104 * n 1 + 53) = nI k := by
    rw [hy, emit_out (by omega), pk_us]
  have hyc : ∀ j, j < k → y (104 * n 1 + (54 + j)) = o1.2.1 j := fun j hj => by
    rw [hy, show 104 * n 1 + (54 + j) = 104 * n 1 + 54 + j by omega, emit_in hj]
  refine two_end ⟨rfl, _, _, _, R_act (n := n) (m := n 1 + 1) (x := emit (upd (emit (upd x (104 * n 1 + 2) (nI len)) (104 * n 1 + 3) (fun i => st (40 + 51 * t + (1 + i))) len) (104 * n 1 + 53) (nI k)) (104 * n 1 + 54) o1.2.1 k) (y := nI (n 1 + 1)) (st2 := upd (emit g9 (244 + 53 * n 1 + 2) (fun j => g9 (40 + 51 * t + j)) 51) 1 (nI (n 1 + 1))) R ?_ ?_⟩
  · rw [← hg]; exact fun k h1 h2 h3 => hgo k (by omega) h3
  rw [← hg, ← hy]
  refine ⟨⟨hn, rfl, by rw [hg, pk_us]⟩, fun i hi => ?_⟩
  by_cases hin : i < n 1
  · have e1 : rowf y 0 104 i = rowf (tc 2) 0 104 i := rowf_eq (n := n 1) hin (fun k h1 h2 => hyo k (by omega))
    have e2 : rowf g 244 53 i = rowf st 244 53 i := rowf_eq (n := n 1) hin (fun k h1 h2 => hgo k (by omega) (by omega))
    rw [e1, e2]; exact qQ i hin
  · have hii : i = n 1 := by omega
    subst hii
    have ry : ∀ j, j < 104 → rowf y 0 104 (n 1) j = y (104 * n 1 + j) := fun j hj => by rw [rowf_at hj, Nat.zero_add]
    have rg : ∀ j, j < 53 → rowf g 244 53 (n 1) j = g (244 + 53 * n 1 + j) := fun j hj => by rw [rowf_at hj]
    refine ⟨?_, ?_, ?_, ⟨len, hlen, ?_, ?_, fun j hj => ?_⟩, k, k1, ?_, ?_⟩
    · rw [ry 0 (by omega), rg 0 (by omega), Nat.add_zero, Nat.add_zero, hy0, hg0]
    · rw [ry 1 (by omega), rg 1 (by omega), hy1, hg1]
    · rw [rg 1 (by omega), hg1]; exact h2
    · rw [rg 2 (by omega)]
      exact (hgt 0 (by omega)).trans hlen2
    · rw [ry 2 (by omega), hy2]
    · rw [ry (3 + j) (by omega), rg (3 + j) (by omega), hyt j hj, show 244 + 53 * n 1 + (3 + j) = 244 + 53 * n 1 + (2 + (1 + j)) by omega, hgt _ (by omega)]
    · rw [ry 53 (by omega), hyk]
    · intro st2 step2 steps2 mw2 waits2 wth2 p hp hst2
      obtain ⟨h1', h2', h3'⟩ := rTex_H R.2.1 ht hlen2 hlen (st2 := st2) (p := p) hp (fun j hj => by rw [hst2 j hj, rg (2 + j) (by omega), hgt j hj])
      obtain ⟨o1', o2', f1, f2, f3, f4⟩ := READ h1' h2' h3' codes count digits fault fd nb op du waiting wts step2 steps2 mw2 waits2 wth2
      have e : o1' = o1 := Option.some.inj (f1.symm.trans e3)
      subst e
      obtain ⟨k', g1, g2', g3, g4⟩ := f4 hf
      have ek : k' = k := (nI_eq (by omega) (by omega)).mp (g2'.symm.trans k2)
      subst ek
      exact ⟨o2', f2, by rw [← f3]; exact hf, g3, KD_frame (fun j hj => ⟨by rw [ry (54 + j) (by omega), hyc j hj], rfl, rfl⟩) g4⟩
end ACT
