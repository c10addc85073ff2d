/-! PURE LAWS 16: fault, tells, act; what an act tells -/
def actK (c m : Nat → Int32) : Prop := ∃ k : Nat, k ≤ 50 ∧ c 53 = nI k ∧ ∀ (st : Nat → Int32) (step : Nat → Int32) (steps mw : Int32) (waits wth : Nat → Int32) (p : Nat), p + 51 ≤ 1951 → (∀ j, j < 51 → st (p + j) = m (2 + j)) → ∃ o2 : MF, F_X12_reads st step steps mw waits wth (nI p) = some o2 ∧ o2.1 = -1 ∧ o2.2.2.1 = nI k ∧ KD (fun j => c (54 + j)) o2.2.1 o2.2.2.2.2.2 k 1
section TXT
variable {tc : Nat → Nat → Int32} {tr : Nat → Int32} {nar nam : Int32} {st : Nat → Int32}
theorem rTex_H {cells : Nat → Int32} {rows : Int32} (R : rTex cells rows st) {t n : Nat} (ht : t < 4) (hn : st (40 + 51 * t) = nI n) (hn2 : n ≤ 50) {st2 : Nat → Int32} {p : Nat} (hp : p + 51 ≤ 1951) (hs : ∀ j, j < 51 → st2 (p + j) = st (40 + 51 * t + j)) : RdH (fun i => st (40 + 51 * t + (1 + i))) n 204 cells rows 51 (nI t) st2 (nI p) ∧ F_X8_get 204 cells rows 51 (nI t) 0 = some (nI n) ∧ gI st2 1951 (nI p) = some (nI n) := by
  obtain ⟨r1, r2, r3⟩ := R
  subst r1
  refine ⟨⟨hn2, fun i hi => ?_, fun i hi => ?_⟩, ?_, ?_⟩
  · rw [show (1 : Int32) = nI 1 from rfl, nI_add]
    exact (C_get (len := 204) (wd := 51) ht (by omega) (by decide) (by decide) (by decide) (by decide)).trans (congrArg some (r2 t (1 + i) ht (by omega)))
  · rw [show (1 : Int32) = nI 1 from rfl, nI_add, nI_add, M_at (by omega), show p + 1 + i = p + (1 + i) by omega, hs _ (by omega)]
  · refine (C_get (len := 204) (wd := 51) (c := 0) ht (by omega) (by decide) (by decide) (by decide) (by decide)).trans (congrArg some ?_)
    rw [r2 t 0 ht (by omega)]; exact hn
  · rw [M_at (by omega)]
    have := hs 0 (by omega)
    rw [Nat.add_zero, Nat.add_zero] at this
    rw [this, hn]
theorem M_isText_t {p : Int32} (h : inR p 0 3) : F_X12_isText p = some 1 := sbind (M_in_t rfl rfl h) (sbind bZ_1 rfl)
theorem M_isText_f {p : Int32} (h : ¬ inR p 0 3) : F_X12_isText p = some 0 := sbind (M_in_f rfl rfl h) (sbind bZ_0 rfl)
theorem T_read {cells : Nat → Int32} {rows : Int32} (R : rTex cells rows st) {t : Nat} (ht : t < 4) (codes : Nat → Int32) (count digits fault fd nb op du : Int32) (waiting : Nat → Int32) (wts : Int32) (step : Nat → Int32) (steps mw : Int32) (waits wth : Nat → Int32) :
    Two (F_X7_read 204 cells rows 51 codes count digits fault fd nb op du waiting wts (nI t)) (F_X12_reads st step steps mw waits wth (40 + 51 * nI t)) (fun o1 o2 => o1.1 = o2.1 ∧ (o1.1 = -1 → ∃ k : Nat, k ≤ 50 ∧ o1.2.2.1 = nI k ∧ o2.2.2.1 = nI k ∧ KD o1.2.1 o2.2.1 o2.2.2.2.2.2 k 1)) := by
  obtain ⟨n, hn, hn2⟩ := R.2.2 t ht
  obtain ⟨h1, h2, h3⟩ := rTex_H R ht hn2 hn (st2 := st) (p := 40 + 51 * t) (by omega) (fun j hj => rfl)
  rw [show (40 : Int32) = nI 40 from rfl, show (51 : Int32) = nI 51 from rfl, pk_mul, nI_add]
  obtain ⟨o1, o2, e1, e2, e3, e4⟩ := READ h1 h2 h3 codes count digits fault fd nb op du waiting wts step steps mw waits wth
  refine ⟨o1, o2, e1, e2, e3, fun e => ?_⟩
  obtain ⟨k, k1, k2⟩ := e4 e
  exact ⟨k, by omega, k2⟩
theorem P_fault (h : Rel actK tc tr nar nam st) (codes : Nat → Int32) (count digits fault fd nb op du : Int32) (waiting : Nat → Int32) (wts : Int32) (step : Nat → Int32) (steps mw : Int32) (waits wth : Nat → Int32) (p0 : Int32) :
    Two (F_X11_fault (tc 1) (tr 1) codes count digits fault fd nb op du waiting wts p0) (F_X12_fault st step steps mw waits wth p0) (fun o1 o2 => o1.1 = o2.1) := by
  obtain ⟨n, a, b, R⟩ := h
  unfold F_X11_fault F_X12_fault
  by_cases h0 : inR p0 0 3
  · refine two_l (C_out_t rfl rfl h0) (two_r (M_isText_t h0) ?_)
    rw [if_pos rfl, if_neg (by decide)]
    obtain ⟨t, t1, t2, rfl⟩ := inR_nat (b := 3) h0
    obtain ⟨o1, o2, e1, e2, e3, -⟩ := T_read R.2.1 (t := t) (by omega) codes count digits fault fd nb op du waiting wts step steps mw waits wth
    exact two_l (sbind e1 rfl) (two_r (sbind e2 rfl) (two_end e3))
  · refine two_l (C_out_f rfl rfl h0) (two_r (M_isText_f h0) ?_)
    rw [if_neg (by decide), if_pos rfl]
    exact two_l rfl (two_r rfl (two_end rfl))
theorem M_gives (given : Nat → Int64) (g k t s : Int32) (w : Int64) : ∃ g2, F_X12_gives given g k t s w = some g2 ∧ Gv g2 w g k s t := by
  refine ⟨_, sbind (sL_at (k := 0) (by decide) (by decide)) (sbind (sL_at (k := 1) (by decide) (by decide)) (sbind (sL_at (k := 2) (by decide) (by decide)) (sbind (sL_at (k := 3) (by decide) (by decide)) (sbind (sL_at (k := 4) (by decide) (by decide)) rfl)))), ?_, ?_, ?_, ?_, ?_⟩
  · rw [pk_uLn (by decide), pk_uLn (by decide), pk_uLn (by decide), pk_uLn (by decide), pk_uLs]
  · rw [pk_uLn (by decide), pk_uLn (by decide), pk_uLn (by decide), pk_uLs]
  · rw [pk_uLn (by decide), pk_uLn (by decide), pk_uLs]
  · rw [pk_uLn (by decide), pk_uLs]
  · rw [pk_uLs]
theorem P_tells (h : Rel actK tc tr nar nam st) (ab : Int64) (ga ht ki se : Int32) (sk : Nat → Int64) (to : Int32) (codes : Nat → Int32) (count digits fault fd nb op du : Int32) (waiting : Nat → Int32) (wts : Int32) (given : Nat → Int64) (step : Nat → Int32) (steps : Int32) (value : Nat → Int64) (mw : Int32) (waits wth : Nat → Int32) (p0 p1 p2 p3 p4 : Int32) (p5 : Int64) :
    Two (F_X11_tells ab ga ht ki se sk to (tc 1) (tr 1) codes count digits fault fd nb op du waiting wts p0 p1 p2 p3 p4 p5) (F_X12_tells given st step steps value mw waits wth p0 p1 p2 p3 p4 p5) (fun o1 o2 => o1.1 = o2.1) := by
  obtain ⟨n, a, b, R⟩ := h
  refine two_guard (c := inR p0 0 3) (C_out_t rfl rfl) (C_out_f rfl rfl) M_isText_t M_isText_f (fun _ => two_end rfl) (fun h0 => ?_)
  refine two_guard (c := inR p1 0 5) (C_out_t rfl rfl) (C_out_f rfl rfl) (M_in_t rfl rfl) (M_in_f rfl rfl) (fun _ => two_end rfl) (fun h1 => ?_)
  refine two_guard (c := inR p2 0 1) (C_out_t rfl rfl) (C_out_f rfl rfl) (M_in_t rfl rfl) (M_in_f rfl rfl) (fun _ => two_end rfl) (fun h2 => ?_)
  refine two_guard (c := inR p3 0 1) (C_out_t rfl rfl) (C_out_f rfl rfl) (M_in_t rfl rfl) (M_in_f rfl rfl) (fun _ => two_end rfl) (fun h3 => ?_)
  refine two_guard (c := inR p4 0 99) C_season_t C_season_f M_season_t M_season_f (fun _ => two_end rfl) (fun h4 => ?_)
  obtain ⟨t, t1, t2, rfl⟩ := inR_nat (b := 3) h0
  refine two_bind (T_read R.2.1 (t := t) (by omega) codes count digits fault fd nb op du waiting wts step steps mw waits wth) ?_
  rintro o1 o2 ⟨e1, e2⟩
  by_cases hf : o1.1 = -1
  · obtain ⟨k, k1, k2, k3, k4⟩ := e2 hf
    refine two_ifl hf (two_ifr (by rw [← e1]; exact hf) ?_)
    obtain ⟨g2, g3, g4⟩ := M_gives given p1 p2 p3 p4 p5
    refine two_l rfl (two_r g3 ?_)
    rw [k2, k3]
    refine two_bind (RUN g4 k4 k1 (p := 0) (N := 50) (v := o1.2.1) (fun i hi => by rw [Nat.zero_add]) (by omega) (by decide) ht sk value) ?_
    exact fun x y e => two_end e
  · exact two_ifl' hf (two_ifr' (by rw [← e1]; exact hf) (two_end rfl))
end TXT
def usualN (s : Nat) : Nat := if s = 0 then 5 else if s = 1 then 30 else 100
def mostN (s : Nat) : Nat := if s = 0 then 100 else if s = 1 then 1000 else 200
theorem P_told {n : Nat} {cells : Nat → Int32} {rows : Int32} {st : Nat → Int32} (R : rAct actK cells rows st n) {so : Nat} (hso : so < 3) (ab : Int64) (ga ht ki se : Int32) (sk : Nat → Int64) (to : Int32) (given : Nat → Int64) (step : Nat → Int32) (steps : Int32) (value : Nat → Int64) (mw : Int32) (waits wth : Nat → Int32) (p1 p2 p3 p4 : Int32) (p5 : Int64) :
    Two (F_X1_said ab ga ht cells rows ki se sk to (nI so) p1 p2 p3 p4 p5) (F_X12_told given st step steps value mw waits wth (nI so) p2 p3 p4 p1 p5 (nI (mostN so))) (fun o1 o2 => ∃ v : Nat, v ≤ 1000 ∧ v ≤ mostN so ∧ o1.1 = lN v ∧ o2.1 = nI v) := by
  unfold F_X1_said F_X12_told
  have hm1 : mostN so ≤ 1000 := by unfold mostN; (repeat' split) <;> omega
  have hu1 : usualN so ≤ mostN so := by unfold mostN usualN; (repeat' split) <;> omega
  rw [if_neg (nI_pos (by omega)), if_pos (ltR 3 3 rfl hso (by decide)), if_pos (ltR 3 3 rfl hso (by decide))]
  refine two_bind (P_inForce R (nI so) p1) ?_
  rintro f f' ⟨rfl, hf⟩
  by_cases hN : f = -1
  · refine two_ifl hN (two_ifr hN ?_)
    refine two_l (x := nI (usualN so)) ?_ (two_r (x := nI (usualN so)) ?_ (two_end ⟨usualN so, by omega, hu1, nI_l (by omega), rfl⟩))
    · rcases (show so = 0 ∨ so = 1 ∨ so = 2 by omega) with rfl | rfl | rfl <;> rfl
    · rcases (show so = 0 ∨ so = 1 ∨ so = 2 by omega) with rfl | rfl | rfl <;> rfl
  · refine two_ifl' hN (two_ifr' hN ?_)
    rcases hf with z | ⟨i, hi, rfl⟩
    · exact absurd z hN
    · obtain ⟨⟨r1, r2, r3⟩, hq⟩ := R
      subst r2
      obtain ⟨q1, q2, q3, q4, k, k1, k2, k3⟩ := hq i hi
      rw [rowf_at (by decide)] at k2
      have hcode : F_X8_get 1664 cells (nI n) 104 (nI i) 53 = some (nI k) := by
        refine (C_get (len := 1664) (wd := 104) (c := 53) hi (by decide) (by omega) (by decide) (by omega) (by decide)).trans (congrArg some ?_)
        rw [← k2, show 0 + 104 * i + 53 = 104 * i + 53 by omega]
      obtain ⟨o2, e1, e2, e3, e4⟩ := k3 st step steps mw waits wth (244 + 53 * i + 2) (by omega) (fun j hj => by rw [rowf_at (by omega), show 244 + 53 * i + (2 + j) = 244 + 53 * i + 2 + j by omega])
      obtain ⟨g2, g3, g4⟩ := M_gives given p2 p3 p4 p1 p5
      rw [show (244 : Int32) = nI 244 from rfl, show (53 : Int32) = nI 53 from rfl, show (2 : Int32) = nI 2 from rfl, pk_mul, nI_add, nI_add]
      refine two_l rfl (two_l (C_place hi (c := 54) (by decide) (by omega) (by decide)) (two_l hcode (two_r e1 (two_r g3 ?_))))
      rw [e3]
      refine two_bind (RUN g4 e4 k1 (p := i * 104 + 54) (N := 1664) (v := cells) (fun j hj => by rw [rowf_at (by omega), show 0 + 104 * i + (54 + j) = i * 104 + 54 + j by omega]) (by omega) (by decide) ht sk value) ?_
      rintro ⟨x, x2⟩ ⟨y, y2⟩ hxy
      dsimp only at hxy
      subst hxy
      dsimp only
      have hM : gI ii_most 3 (nI so) = some (nI (mostN so)) := by
        rcases (show so = 0 ∨ so = 1 ∨ so = 2 by omega) with rfl | rfl | rfl <;> rfl
      refine two_l hM ?_
      rw [nI_l (show mostN so < 2 ^ 31 by omega)]
      by_cases hx0 : x < 0
      · have hnM : ¬ lN (mostN so) < x := by
          rw [Int64.lt_iff_toInt_lt] at hx0 ⊢
          rw [lN_toInt (by omega)]
          have : (0 : Int64).toInt = 0 := rfl
          omega
        refine two_r (x := (0 : Int32)) (by rw [if_pos hx0]) (two_end ⟨0, by omega, by omega, ?_, rfl⟩)
        dsimp only
        rw [if_neg hnM, if_pos hx0]; rfl
      · obtain ⟨v, v1, rfl⟩ := pk_lOf hx0
        have hz : ∀ a : Nat, a < 2 ^ 63 → ¬ lN a < 0 := fun a ha z => by
          rw [Int64.lt_iff_toInt_lt, pk_lT ha, show (0 : Int64).toInt = 0 from rfl] at z; omega
        by_cases hvM : mostN so < v
        · have hl : lN (mostN so) < lN v := (pk_lLT (by omega) v1).mpr hvM
          refine two_r (x := nI (mostN so)) (by rw [if_neg hx0, if_pos hl]) (two_end ⟨mostN so, hm1, Nat.le_refl _, ?_, rfl⟩)
          dsimp only
          rw [if_pos hl, if_neg (hz _ (by omega))]
        · have hl : ¬ lN (mostN so) < lN v := fun z => hvM ((pk_lLT (by omega) v1).mp z)
          refine two_r (x := nI v) (by rw [if_neg hx0, if_neg hl, lN_i]) (two_end ⟨v, by omega, by omega, ?_, rfl⟩)
          dsimp only
          rw [if_neg hl, if_neg hx0]
