theorem upd_swap {f : Nat → Int32} {i j : Nat} (h : i ≠ j) (x y : Int32) : upd (upd f i x) j y = upd (upd f j y) i x := by
  funext k
  unfold upd
  (repeat' split) <;> first | rfl | omega
section OPS
variable {AK : (Nat → Int32) → (Nat → Int32) → Prop} {tc : Nat → Nat → Int32} {tr : Nat → Int32} {nar nam : Int32} {st : Nat → Int32}
theorem R_num {n : Nat → Nat} {a b a2 : Nat} {nar2 : Int32} {st2 : Nat → Int32} (R : RelN AK tc tr nar nam st n a b) (hs : ∀ k, k < 1951 → k ≠ 11 → st2 k = st k) (h : rNum nar2 nam st2 a2 b) : RelN AK tc tr nar2 nam st2 n a2 b := by
  obtain ⟨R0, R1, R2, R3, R4, R5, R6, R7, R8, R9, R10, R11, R12, R13⟩ := R
  exact ⟨rT_frame R0 (fun k h1 h2 => hs k (by omega) (by omega)) (hs 0 (by omega) (by omega)), rTex_frame R1 (fun k h1 h2 => hs k (by omega) (by omega)), rAct_frame R2 (fun k h1 h2 => hs k (by omega) (by omega)) (hs 1 (by omega) (by omega)), rT_frame R3 (fun k h1 h2 => hs k (by omega) (by omega)) (hs 2 (by omega) (by omega)), rT_frame R4 (fun k h1 h2 => hs k (by omega) (by omega)) (hs 3 (by omega) (by omega)), rT_frame R5 (fun k h1 h2 => hs k (by omega) (by omega)) (hs 4 (by omega) (by omega)), rT_frame R6 (fun k h1 h2 => hs k (by omega) (by omega)) (hs 5 (by omega) (by omega)), rT_frame R7 (fun k h1 h2 => hs k (by omega) (by omega)) (hs 6 (by omega) (by omega)), rT_frame R8 (fun k h1 h2 => hs k (by omega) (by omega)) (hs 7 (by omega) (by omega)), rT_frame R9 (fun k h1 h2 => hs k (by omega) (by omega)) (hs 8 (by omega) (by omega)), rT_frame R10 (fun k h1 h2 => hs k (by omega) (by omega)) (hs 9 (by omega) (by omega)), rT_frame R11 (fun k h1 h2 => hs k (by omega) (by omega)) (hs 10 (by omega) (by omega)), rPri_frame R12 (fun k h1 h2 => hs k (by omega) (by omega)), h⟩
theorem P_narrow (h : Rel AK tc tr nar nam st) (p0 : Int32) : Two (F_X11_narrow nar p0) (F_X12_narrow st p0) (fun o1 o2 => o1.1 = o2.1 ∧ Rel AK tc tr o1.2 nam o2.2) := by
  have hsame := h
  obtain ⟨n, a, b, R⟩ := h
  obtain ⟨u1, u2, u3, u4, u5, u6, u7, u8⟩ := id R.2.2.2.2.2.2.2.2.2.2.2.2.2
  refine two_guardj (c := inR p0 2 100) (C_out_t rfl rfl) (C_out_f rfl rfl) (M_in_t rfl rfl) (M_in_f rfl rfl) (fun _ => two_end ⟨rfl, hsame⟩) (fun h0 => ?_)
  obtain ⟨w, w0, w1, w2, rfl⟩ := inR_natA (a := 2) (b := 100) h0
  refine two_r (M_puts (k := 11) (by decide)) ?_
  refine two_end ⟨by show nar = st 11; rw [u5, u6], n, w, b, ?_⟩
  exact R_num (st2 := upd st 11 (nI w)) R (fun k h1 h2 => pk_un h2) ⟨w0, w1, u3, u4, rfl, pk_us, u7, by rw [pk_un (by omega)]; exact u8⟩
theorem P_names (h : Rel AK tc tr nar nam st) (p0 : Int32) : Two (F_X11_names nam (tr 8) p0) (F_X12_names st p0) (fun o1 o2 => o1.1 = o2.1 ∧ Rel AK tc (va_up tr 8 o1.2.2) nar o1.2.1 o2.2) := by
  have hsame : Rel AK tc (va_up tr 8 (tr 8)) nar nam st := by rw [vu_id]; exact h
  obtain ⟨n, a, b, R⟩ := h
  refine two_guard (c := inR p0 1 9) (C_out_t rfl rfl) (C_out_f rfl rfl) (M_in_t rfl rfl) (M_in_f rfl rfl) (fun _ => two_end ⟨rfl, hsame⟩) (fun h0 => ?_)
  obtain ⟨w, w0, w1, w2, rfl⟩ := inR_natA (a := 1) (b := 9) h0
  refine two_l (x := (0 : Int32)) rfl (two_r (M_set (k := 12) (by decide)) (two_r (M_set (k := 7) (by decide)) ?_))
  obtain ⟨R0, R1, R2, R3, R4, R5, R6, R7, R8, R9, R10, R11, R12, R13⟩ := R
  have hs : ∀ k, k ≠ 12 → k ≠ 7 → upd (upd st 12 (nI w)) 7 0 k = st k := fun k h1 h2 => by rw [pk_un h2, pk_un h1]
  refine two_end ⟨rfl, (fun k => if k = 7 then 0 else n k), a, w, ?_⟩
  refine ⟨rT_frame R0 (fun k h1 h2 => hs k (by omega) (by omega)) (hs 0 (by omega) (by omega)), rTex_frame R1 (fun k h1 h2 => hs k (by omega) (by omega)), rAct_frame R2 (fun k h1 h2 => hs k (by omega) (by omega)) (hs 1 (by omega) (by omega)), rT_frame R3 (fun k h1 h2 => hs k (by omega) (by omega)) (hs 2 (by omega) (by omega)), rT_frame R4 (fun k h1 h2 => hs k (by omega) (by omega)) (hs 3 (by omega) (by omega)), rT_frame R5 (fun k h1 h2 => hs k (by omega) (by omega)) (hs 4 (by omega) (by omega)), rT_frame R6 (fun k h1 h2 => hs k (by omega) (by omega)) (hs 5 (by omega) (by omega)), rT_frame R7 (fun k h1 h2 => hs k (by omega) (by omega)) (hs 6 (by omega) (by omega)), ⟨⟨by show 0 ≤ 40; omega, rfl, by show upd (upd st 12 (nI w)) 7 0 7 = (0 : Int32); exact pk_us⟩, fun i j hi => absurd hi (Nat.not_lt_zero i), fun i hi => absurd hi (Nat.not_lt_zero i)⟩, rT_frame R9 (fun k h1 h2 => hs k (by omega) (by omega)) (hs 8 (by omega) (by omega)), rT_frame R10 (fun k h1 h2 => hs k (by omega) (by omega)) (hs 9 (by omega) (by omega)), rT_frame R11 (fun k h1 h2 => hs k (by omega) (by omega)) (hs 10 (by omega) (by omega)), rPri_frame R12 (fun k h1 h2 => hs k (by omega) (by omega)), ?_⟩
  obtain ⟨u1, u2, u3, u4, u5, u6, u7, u8⟩ := R13
  exact ⟨u1, u2, w0, w1, u5, by show upd (upd st 12 (nI w)) 7 0 11 = nI a; rw [hs 11 (by omega) (by omega)]; exact u6, rfl, by show upd (upd st 12 (nI w)) 7 0 12 = nI w; rw [pk_un (by omega), pk_us]⟩
theorem C_text_t {p : Int32} (h : inR p 0 3) : F_X12_isText p = some 1 := sbind (M_in_t rfl rfl h) (sbind bZ_1 rfl)
theorem C_text_f {p : Int32} (h : ¬ inR p 0 3) : F_X12_isText p = some 0 := sbind (M_in_f rfl rfl h) (sbind bZ_0 rfl)
theorem C_tget {cells : Nat → Int32} {t j : Nat} (ht : t < 4) (hj : j < 51) : F_X8_get 204 cells (nI 4) (nI 51) (nI t) (nI j) = some (cells (51 * t + j)) := C_get ht hj (by decide) (by decide) (by decide) (by decide)
theorem C_tset {cells : Nat → Int32} {t j : Nat} {x : Int32} (ht : t < 4) (hj : j < 51) : F_X8_set 204 cells (nI 4) (nI 51) (nI t) (nI j) x = some (upd cells (51 * t + j) x) := C_set ht hj (by decide) (by decide) (by decide) (by decide)
theorem P_erase (h : Rel AK tc tr nar nam st) (p0 : Int32) : Two (F_X11_erase (tc 1) (tr 1) p0) (F_X12_erase st p0) (fun o1 o2 => o1.1 = o2.1 ∧ Rel AK (va_up tc 1 o1.2) tr nar nam o2.2) := by
  have hsame : Rel AK (va_up tc 1 (tc 1)) tr nar nam st := by rw [vu_id]; exact h
  obtain ⟨n, a, b, R⟩ := h
  obtain ⟨t1, t2, t3⟩ := id R.2.1
  refine two_guardj (c := inR p0 0 3) (C_out_t rfl rfl) (C_out_f rfl rfl) C_text_t C_text_f (fun _ => two_end ⟨rfl, hsame⟩) (fun h0 => ?_)
  obtain ⟨t, w1, w2, rfl⟩ := inR_nat (b := 3) h0
  rw [t1]
  refine two_l (C_tget (j := 0) (by omega) (by decide)) (two_l (C_tset (j := 0) (by omega) (by decide)) ?_)
  rw [show (40 : Int32) = nI 40 from rfl, show (51 : Int32) = nI 51 from rfl, pk_mul, nI_add]
  refine two_r (M_puts (by omega)) ?_
  have e0 : tc 1 (51 * t + 0) = st (40 + 51 * t) := t2 t 0 (by omega) (by decide)
  refine two_end ⟨e0, ?_⟩
  have hR := R_tex (n := n) (x := upd (tc 1) (51 * t + 0) 0) (y := tr 1) (st2 := upd st (40 + 51 * t) 0) R (fun j h1 h2 => pk_un (by omega)) ⟨t1, TB_set (j0 := 0) t2 (by decide) (by decide), fun k hk => by
    by_cases e : k = t
    · subst e; exact ⟨0, by omega, pk_us⟩
    · rw [pk_un (by omega)]; exact t3 k hk⟩
  rw [vu_id] at hR
  exact ⟨_, _, _, hR⟩
theorem P_write (h : Rel AK tc tr nar nam st) (p0 p1 : Int32) : Two (F_X11_write (tc 1) (tr 1) p0 p1) (F_X12_write st p0 p1) (fun o1 o2 => o1.1 = o2.1 ∧ Rel AK (va_up tc 1 o1.2) tr nar nam o2.2) := by
  have hsame : Rel AK (va_up tc 1 (tc 1)) tr nar nam st := by rw [vu_id]; exact h
  obtain ⟨n, a, b, R⟩ := h
  obtain ⟨t1, t2, t3⟩ := id R.2.1
  refine two_guard (c := inR p0 0 3) (C_out_t rfl rfl) (C_out_f rfl rfl) C_text_t C_text_f (fun _ => two_end ⟨rfl, hsame⟩) (fun h0 => ?_)
  refine two_guard (c := inR p1 0 127) (C_out_t rfl rfl) (C_out_f rfl rfl) (M_in_t rfl rfl) (M_in_f rfl rfl) (fun _ => two_end ⟨rfl, hsame⟩) (fun h1 => ?_)
  obtain ⟨t, w1, w2, rfl⟩ := inR_nat (b := 3) h0
  obtain ⟨k, k1, hk⟩ := t3 t (by omega)
  have e0 : tc 1 (51 * t + 0) = nI k := (t2 t 0 (by omega) (by decide)).trans hk
  rw [t1]
  refine two_l (C_tget (j := 0) (by omega) (by decide)) ?_
  rw [e0, show (40 : Int32) = nI 40 from rfl, show (51 : Int32) = nI 51 from rfl, pk_mul, nI_add]
  refine two_rt (two_r (M_at (by omega)) ?_)
  rw [hk]
  by_cases hf : k = 50
  · subst hf
    exact two_ifl' (by decide) (two_ifr rfl (two_end ⟨rfl, hsame⟩))
  · refine two_ifl (nI_lt (b := 50) (by omega) (by decide)) (two_ifr' (ne_nI (b := 50) (by omega) (by decide) hf) ?_)
    rw [show (1 : Int32) = nI 1 from rfl, nI_add, nI_add]
    refine two_l (C_tset (j := 1 + k) (by omega) (by omega)) (two_l (C_tset (j := 0) (by omega) (by decide)) ?_)
    refine two_r (x := nI k) (by rw [M_at (by omega), hk]) ?_
    rw [nI_add]
    refine two_r (M_set (by omega)) (two_r (x := nI (k + 1)) (by rw [M_at (by omega), pk_us]) ?_)
    rw [nI_add]
    refine two_r (M_set (by omega)) (two_r (x := nI (k + 1)) (by rw [M_at (by omega), pk_un (by omega), pk_us]) ?_)
    refine two_end ⟨rfl, ?_⟩
    have e1 : upd (upd st (40 + 51 * t) (nI (k + 1))) (40 + 51 * t + (k + 1)) p1 = upd (upd st (40 + 51 * t + (1 + k)) p1) (40 + 51 * t + 0) (nI (k + 1)) := by
      rw [upd_swap (by omega), show 40 + 51 * t + (k + 1) = 40 + 51 * t + (1 + k) by omega, Nat.add_zero (40 + 51 * t)]
    have hR := R_tex (n := n) (x := upd (upd (tc 1) (51 * t + (1 + k)) p1) (51 * t + 0) (nI (k + 1))) (y := tr 1) (st2 := upd (upd st (40 + 51 * t + (1 + k)) p1) (40 + 51 * t + 0) (nI (k + 1))) R (fun j h1 h2 => by rw [pk_un (by omega), pk_un (by omega)]) ⟨t1, TB_set (TB_set t2 (by decide) (by omega)) (by decide) (by decide), fun q hq => by
      by_cases e : q = t
      · subst e; exact ⟨k + 1, by omega, pk_us⟩
      · rw [pk_un (by omega), pk_un (by omega)]; exact t3 q hq⟩
    rw [vu_id, ← e1] at hR
    exact ⟨_, _, _, hR⟩
end OPS
