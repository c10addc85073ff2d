/-! PURE LAWS 6: both sides step by step -/
def Two {α β : Type} (E1 : Option α) (E2 : Option β) (P : α → β → Prop) : Prop := ∃ o1 o2, E1 = some o1 ∧ E2 = some o2 ∧ P o1 o2
theorem two_end {α β : Type} {a : α} {b : β} {P : α → β → Prop} (h : P a b) : Two (some a) (some b) P := ⟨a, b, rfl, rfl, h⟩
theorem two_l {α β γ : Type} {a : Option γ} {x : γ} {K : γ → Option α} {E2 : Option β} {P : α → β → Prop} (h : a = some x) (k : Two (K x) E2 P) : Two (Option.bind a K) E2 P := by rw [h]; exact k
theorem two_r {α β γ : Type} {a : Option γ} {x : γ} {K : γ → Option β} {E1 : Option α} {P : α → β → Prop} (h : a = some x) (k : Two E1 (K x) P) : Two E1 (Option.bind a K) P := by rw [h]; exact k
theorem two_lt {α β γ : Type} {x : γ} {K : γ → Option α} {E2 : Option β} {P : α → β → Prop} (k : Two (K x) E2 P) : Two (lt x K) E2 P := k
theorem two_rt {α β γ : Type} {x : γ} {K : γ → Option β} {E1 : Option α} {P : α → β → Prop} (k : Two E1 (K x) P) : Two E1 (lt x K) P := k
theorem two_if {α β : Type} {c : Prop} [Decidable c] {A1 B1 : Option α} {A2 B2 : Option β} {P : α → β → Prop} (t : c → Two A1 A2 P) (e : ¬ c → Two B1 B2 P) : Two (if c then A1 else B1) (if c then A2 else B2) P := by
  by_cases h : c
  · rw [if_pos h, if_pos h]; exact t h
  · rw [if_neg h, if_neg h]; exact e h
theorem two_ifl {α β : Type} {c : Prop} [Decidable c] {A1 B1 : Option α} {E2 : Option β} {P : α → β → Prop} (h : c) (k : Two A1 E2 P) : Two (if c then A1 else B1) E2 P := by rw [if_pos h]; exact k
theorem two_ifl' {α β : Type} {c : Prop} [Decidable c] {A1 B1 : Option α} {E2 : Option β} {P : α → β → Prop} (h : ¬ c) (k : Two B1 E2 P) : Two (if c then A1 else B1) E2 P := by rw [if_neg h]; exact k
theorem two_ifr {α β : Type} {c : Prop} [Decidable c] {A2 B2 : Option β} {E1 : Option α} {P : α → β → Prop} (h : c) (k : Two E1 A2 P) : Two E1 (if c then A2 else B2) P := by rw [if_pos h]; exact k
theorem two_ifr' {α β : Type} {c : Prop} [Decidable c] {A2 B2 : Option β} {E1 : Option α} {P : α → β → Prop} (h : ¬ c) (k : Two E1 B2 P) : Two E1 (if c then A2 else B2) P := by rw [if_neg h]; exact k
/-- the class's guard answers 0 where c holds, the model's 1 -/
theorem two_guard {α β : Type} {c : Prop} {g1 g2 : Option Int32} {A1 B1 : Option α} {A2 B2 : Option β} {P : α → β → Prop} (h1 : c → g1 = some 0) (h1' : ¬ c → g1 = some 1) (h2 : c → g2 = some 1) (h2' : ¬ c → g2 = some 0) (bad : ¬ c → Two B1 B2 P) (ok : c → Two A1 A2 P) : Two (Option.bind g1 fun v => if v = 0 then A1 else B1) (Option.bind g2 fun v => if v = 0 then B2 else A2) P := by
  by_cases h : c
  · refine two_l (h1 h) (two_r (h2 h) ?_)
    exact two_ifl rfl (two_ifr' (by decide) (ok h))
  · refine two_l (h1' h) (two_r (h2' h) ?_)
    exact two_ifl' (by decide) (two_ifr rfl (bad h))
theorem two_full {α β : Type} {lim n cnt : Nat} {rows : Int32} {st : Nat → Int32} {A1 B1 : Option α} {B2 : Option β} {K : Option β} {P : α → β → Prop} (hr : rows = nI n) (hc : st cnt = nI n) (hn : n ≤ lim) (hl : lim < 2 ^ 31) (hcnt : cnt < 1951) (full : Two B1 B2 P) (ok : n < lim → Two A1 K P) : Two (Option.bind (F_X8_isFull (nI lim) rows) fun v => if v = 0 then A1 else B1) (Option.bind (gI st 1951 (nI cnt)) fun t => if t = nI lim then B2 else K) P := by
  subst hr
  refine two_l (C_full (by omega) hl) (two_r (M_at hcnt) ?_)
  rw [hc]
  by_cases h : lim ≤ n
  · have e : n = lim := by omega
    rw [if_pos h]
    exact two_ifl' (by decide) (two_ifr (by rw [e]) full)
  · rw [if_neg h]
    exact two_ifl rfl (two_ifr' (ne_nI (by omega) hl (by omega)) (ok (by omega)))
/-! guards -/
theorem C_season_t {p : Int32} (h : inR p 0 99) : F_X11_isOutOfSeasons p = some 0 := sbind (C_out_t rfl rfl h) (sbind bZ_0 rfl)
theorem C_season_f {p : Int32} (h : ¬ inR p 0 99) : F_X11_isOutOfSeasons p = some 1 := sbind (C_out_f rfl rfl h) (sbind bZ_1 rfl)
theorem M_season_t {p : Int32} (h : inR p 0 99) : F_X12_isSeason p = some 1 := sbind (M_in_t rfl rfl h) (sbind bZ_1 rfl)
theorem M_season_f {p : Int32} (h : ¬ inR p 0 99) : F_X12_isSeason p = some 0 := sbind (M_in_f rfl rfl h) (sbind bZ_0 rfl)
theorem C_rows_t {p : Int32} {n : Nat} (hn : n < 2 ^ 31) (h : inR p 0 ((n : Int) - 1)) : F_X11_isOut p 0 (nI n - 1) = some 0 := C_out_t rfl (nI_m1 hn) h
theorem C_rows_f {p : Int32} {n : Nat} (hn : n < 2 ^ 31) (h : ¬ inR p 0 ((n : Int) - 1)) : F_X11_isOut p 0 (nI n - 1) = some 1 := C_out_f rfl (nI_m1 hn) h
theorem C_noM_t {p : Int32} {n : Nat} (hn : n < 2 ^ 31) (h : inR p 0 ((n : Int) - 1)) : F_X11_isNoMerchant (nI n) p = some 0 := sbind (C_rows_t hn h) (sbind bZ_0 rfl)
theorem C_noM_f {p : Int32} {n : Nat} (hn : n < 2 ^ 31) (h : ¬ inR p 0 ((n : Int) - 1)) : F_X11_isNoMerchant (nI n) p = some 1 := sbind (C_rows_f hn h) (sbind bZ_1 rfl)
theorem C_noD_t {p : Int32} {n : Nat} (hn : n < 2 ^ 31) (h : inR p 0 ((n : Int) - 1)) : F_X11_isNoDebt (nI n) p = some 0 := sbind (C_rows_t hn h) (sbind bZ_0 rfl)
theorem C_noD_f {p : Int32} {n : Nat} (hn : n < 2 ^ 31) (h : ¬ inR p 0 ((n : Int) - 1)) : F_X11_isNoDebt (nI n) p = some 1 := sbind (C_rows_f hn h) (sbind bZ_1 rfl)
theorem C_noP_t {p : Int32} {n : Nat} (hn : n < 2 ^ 31) (h : inR p 0 ((n : Int) - 1)) : F_X11_isNoPurse (nI n) p = some 0 := sbind (C_rows_t hn h) (sbind bZ_0 rfl)
theorem C_noP_f {p : Int32} {n : Nat} (hn : n < 2 ^ 31) (h : ¬ inR p 0 ((n : Int) - 1)) : F_X11_isNoPurse (nI n) p = some 1 := sbind (C_rows_f hn h) (sbind bZ_1 rfl)
theorem C_noN_t {p : Int32} {n : Nat} (hn : n < 2 ^ 31) (h : inR p 0 ((n : Int) - 1)) : F_X11_isNoName (nI n) p = some 0 := sbind (C_rows_t hn h) (sbind bZ_0 rfl)
theorem C_noN_f {p : Int32} {n : Nat} (hn : n < 2 ^ 31) (h : ¬ inR p 0 ((n : Int) - 1)) : F_X11_isNoName (nI n) p = some 1 := sbind (C_rows_f hn h) (sbind bZ_1 rfl)
theorem M_is_t {st : Nat → Int32} {c n : Nat} {p : Int32} (hc : c < 1951) (h0 : st c = nI n) (hn : n < 2 ^ 31) (h : inR p 0 ((n : Int) - 1)) : F_X12_is st (nI c) p = some 1 := sbind (M_at hc) (by rw [h0]; exact sbind (M_in_t rfl (by rw [Int32.toInt_toInt64, nI_m1 hn]) h) (sbind bZ_1 rfl))
theorem M_is_f {st : Nat → Int32} {c n : Nat} {p : Int32} (hc : c < 1951) (h0 : st c = nI n) (hn : n < 2 ^ 31) (h : ¬ inR p 0 ((n : Int) - 1)) : F_X12_is st (nI c) p = some 0 := sbind (M_at hc) (by rw [h0]; exact sbind (M_in_f rfl (by rw [Int32.toInt_toInt64, nI_m1 hn]) h) (sbind bZ_0 rfl))
theorem inR_row {p : Int32} {n : Nat} (h : inR p 0 ((n : Int) - 1)) : ∃ k : Nat, k < n ∧ k < 2 ^ 31 ∧ p = nI k := by
  obtain ⟨k, h1, h2, h3⟩ := inR_nat (x := p) (b := n) ⟨h.1, by have := h.2; omega⟩
  refine ⟨k, ?_, h2, h3⟩
  have := h.2
  rw [h3, nI_toInt h2] at this
  omega
section OPS
variable {AK : (Nat → Int32) → (Nat → Int32) → Prop} {tc : Nat → Nat → Int32} {tr : Nat → Int32} {nar nam : Int32} {st : Nat → Int32}
theorem Rel_same (h : Rel AK tc tr nar nam st) (i : Nat) : Rel AK (va_up tc i (tc i)) (va_up tr i (tr i)) nar nam st := by
  have e1 : va_up tc i (tc i) = tc := by funext k; unfold va_up; split <;> simp_all
  have e2 : va_up tr i (tr i) = tr := by funext k; unfold va_up; split <;> simp_all
  rw [e1, e2]; exact h
theorem P_gate (h : Rel AK tc tr nar nam st) (p0 : Int32) : Two (F_X11_gate (tc 6) (tr 6) p0) (F_X12_gate st p0) (fun o1 o2 => o1.1 = o2.1 ∧ Rel AK (va_up tc 6 o1.2.1) (va_up tr 6 o1.2.2) nar nam o2.2) := by
  have hsame := Rel_same h 6
  obtain ⟨n, a, b, R⟩ := h
  obtain ⟨⟨q1, q2, q3⟩, -, -⟩ := id R.2.2.2.2.2.2.1
  refine two_guard (c := inR p0 0 1) (C_out_t rfl rfl) (C_out_f rfl rfl) (M_in_t rfl rfl) (M_in_f rfl rfl) (fun _ => two_end ⟨rfl, hsame⟩) (fun h0 => ?_)
  refine two_full (lim := 6) (cnt := 5) q2 q3 q1 (by decide) (by decide) (two_end ⟨rfl, hsame⟩) (fun hn => ?_)
  obtain ⟨x, hx1, hx2⟩ := C_add (len := 6) (lim := 6) (n := n 5) (w := 1) (cells := tc 6) (a := p0) (b := 0) (c := 0) (d := 0) (e := 0) hn (by decide) (by decide) (by decide) (by decide) (by decide)
  rw [q2]
  refine two_l hx1 ?_
  refine two_r (x := nI (n 5)) (by rw [← q3]; exact M_at (k := 5) (by decide)) ?_
  rw [show (1591 : Int32) = nI 1591 from rfl, nI_add]
  refine two_r (M_set (by omega)) ?_
  refine two_r (M_one (c := 5) (n := n 5) (by decide) (by rw [pk_un (by omega)]; exact q3) (by omega)) ?_
  refine two_end ⟨rfl, _, _, _, R_gat (n := n) (m := n 5 + 1) (x := x) (y := nI (n 5 + 1)) (st2 := upd (upd st (1591 + n 5) p0) 5 (nI (n 5 + 1))) R (fun k h1 h2 h3 => by rw [pk_un h3, pk_un (by omega)]) ?_⟩
  refine rT_add R.2.2.2.2.2.2.1 hn (by decide) (fun k hk => by rw [hx2, addC_old hk]) (fun k h1 h2 => by rw [pk_un (by omega), pk_un (by omega)]) pk_us (fun j hj => ?_) trivial
  rw [hx2]
  unfold addC upd
  (repeat' split) <;> first | rfl | omega
end OPS
