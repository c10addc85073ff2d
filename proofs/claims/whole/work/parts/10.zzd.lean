/-! PURE LAWS 45: images, the new house -/
section IMG
variable {tc : Nat → Nat → Int32} {tr : Nat → Int32} {nar nam : Int32} {st : Nat → Int32}
theorem Rel_st (h : Rel actK tc tr nar nam st) {st' : Nat → Int32} (hs : ∀ k, k < 1951 → st' k = st k) : Rel actK tc tr nar nam st' := by
  obtain ⟨n, a, b, R0, R1, R2, R3, R4, R5, R6, R7, R8, R9, R10, R11, R12, R13⟩ := h
  have f : ∀ {lim w wd off cnt m : Nat} {Q : (Nat → Int32) → Prop} {cells : Nat → Int32} {rows : Int32}, rT lim w wd off cnt Q cells rows st m → off + wd * lim ≤ 1951 → cnt < 1951 → rT lim w wd off cnt Q cells rows st' m := fun h h1 h2 => rT_frame h (fun k a b => hs k (by omega)) (hs _ h2)
  exact ⟨n, a, b, f R0 (by decide) (by decide), rTex_frame R1 (fun k a b => hs k (by omega)), rAct_frame R2 (fun k a b => hs k (by omega)) (hs 1 (by decide)), f R3 (by decide) (by decide), f R4 (by decide) (by decide), f R5 (by decide) (by decide), f R6 (by decide) (by decide), f R7 (by decide) (by decide), f R8 (by decide) (by decide), f R9 (by decide) (by decide), f R10 (by decide) (by decide), f R11 (by decide) (by decide), rPri_frame R12 (fun k a b => hs k (by omega)), rNum_frame R13 (hs 11 (by decide)) (hs 12 (by decide))⟩
theorem C_bec {len n wd lim : Nat} {cells dc : Nat → Int32} {rows dr : Int32} (hr : rows = nI n) (hn : n ≤ lim) (hl : lim * wd ≤ len) (h1 : len < 2 ^ 31) : ∃ g, F_X8_become len len cells rows (nI wd) dc dr = some (g, rows) ∧ ∀ k, k < wd * n → g k = cells k := by
  have hm : n * wd ≤ len := Nat.le_trans (Nat.mul_le_mul_right wd hn) hl
  refine ⟨va_cpy cells dc 0 0 (n * wd), ?_, fun k hk => ?_⟩
  · unfold F_X8_become
    have e0 : (if (Int32.ofNat len) < (Int32.ofNat len) then (Int32.ofNat len) else (Int32.ofNat len)) = nI len := by split <;> rfl
    rw [e0, hr, pk_mul, if_neg (nI_nlt hm h1), lt_eq]
    have e1 : (if (0 : Int32) < nI (n * wd) then nI (n * wd) else (0 : Int32)) = nI (n * wd) := by
      by_cases h : 0 < n * wd
      · rw [if_pos (ltL 0 0 rfl h (by omega))]
      · rw [show n * wd = 0 by omega]; rfl
    rw [e1]
    refine sbind (x := va_cpy cells dc 0 0 (n * wd)) ?_ rfl
    unfold cpI
    rw [nI_toInt (show n * wd < 2 ^ 31 by omega), nI_clamp (show n * wd < 2 ^ 31 by omega), show (0 : Int32).toNatClampNeg = 0 from rfl, show (0 : Int32).toInt = 0 from rfl, if_pos ⟨⟨by omega, by omega, by omega⟩, by omega, by omega⟩]
  · unfold va_cpy
    rw [Nat.mul_comm n wd, if_pos ⟨by omega, by omega⟩]
    exact congrArg cells (by omega)
theorem rT_bec {len wd lim off cnt n : Nat} {Q : (Nat → Int32) → Prop} {cells : Nat → Int32} {rows : Int32} (R : rT lim wd wd off cnt Q cells rows st n) (hl : lim * wd ≤ len) (h1 : len < 2 ^ 31) (dc : Nat → Int32) (dr : Int32) : ∃ g, F_X8_become len len cells rows (nI wd) dc dr = some (g, rows) ∧ rT lim wd wd off cnt Q g rows st n := by
  obtain ⟨⟨r1, r2, r3⟩, r4, r5⟩ := R
  obtain ⟨g, g1, g2⟩ := C_bec (cells := cells) (dc := dc) (dr := dr) (wd := wd) r2 r1 hl h1
  refine ⟨g, g1, ⟨r1, r2, r3⟩, fun i j hi hj => ?_, r5⟩
  rw [g2 _ (by
    have := Nat.mul_le_mul_left wd (show i + 1 ≤ n from hi)
    rw [Nat.mul_add] at this; omega)]
  exact r4 i j hi hj
theorem BECOME (h : Rel actK tc tr nar nam st) (dc : Nat → Nat → Int32) (dr : Nat → Int32) (dnar dnam : Int32) : ∃ tc', F_X0_become (tc 2) (tr 2) (tc 3) (tr 3) (tc 6) (tr 6) (tc 9) (tr 9) (tc 11) (tr 11) (tc 10) (tr 10) (tc 0) (tr 0) nam nar (tc 4) (tr 4) (tc 12) (tr 12) (tc 5) (tr 5) (tc 7) (tr 7) (tc 1) (tr 1) (tc 8) (tr 8) (dc 2) (dr 2) (dc 3) (dr 3) (dc 6) (dr 6) (dc 9) (dr 9) (dc 11) (dr 11) (dc 10) (dr 10) (dc 0) (dr 0) dnam dnar (dc 4) (dr 4) (dc 12) (dr 12) (dc 5) (dr 5) (dc 7) (dr 7) (dc 1) (dr 1) (dc 8) (dr 8) = some (tc' 2, tr 2, tc' 3, tr 3, tc' 6, tr 6, tc' 9, tr 9, tc' 11, tr 11, tc' 10, tr 10, tc' 0, tr 0, nam, nar, tc' 4, tr 4, tc' 12, tr 12, tc' 5, tr 5, tc' 7, tr 7, tc' 1, tr 1, tc' 8, tr 8) ∧ Rel actK tc' tr nar nam st := by
  obtain ⟨n, a, b, R0, R1, R2, R3, R4, R5, R6, R7, R8, R9, R10, R11, R12, R13⟩ := h
  obtain ⟨g0, e0, S0⟩ := rT_bec (len := 20) R0 (by decide) (by decide) (dc 0) (dr 0)
  obtain ⟨t1, t2, t3⟩ := id R1
  obtain ⟨g1, e1, s1⟩ := C_bec (len := 204) (wd := 51) (lim := 4) (cells := tc 1) (dc := dc 1) (dr := dr 1) t1 (by decide) (by decide) (by decide)
  obtain ⟨⟨c1, c2, c3⟩, c4⟩ := id R2
  obtain ⟨g2, e2, s2⟩ := C_bec (len := 1664) (wd := 104) (cells := tc 2) (dc := dc 2) (dr := dr 2) c2 c1 (by decide) (by decide)
  obtain ⟨g3, e3, S3⟩ := rT_bec (len := 280) R3 (by decide) (by decide) (dc 3) (dr 3)
  obtain ⟨g4, e4, S4⟩ := rT_bec (len := 180) R4 (by decide) (by decide) (dc 4) (dr 4)
  obtain ⟨g5, e5, S5⟩ := rT_bec (len := 39) R5 (by decide) (by decide) (dc 5) (dr 5)
  obtain ⟨g6, e6, S6⟩ := rT_bec (len := 6) R6 (by decide) (by decide) (dc 6) (dr 6)
  obtain ⟨g7, e7, S7⟩ := rT_bec (len := 36) R7 (by decide) (by decide) (dc 7) (dr 7)
  obtain ⟨g8, e8, S8⟩ := rT_bec (len := 120) R8 (by decide) (by decide) (dc 8) (dr 8)
  obtain ⟨g9, e9, S9⟩ := rT_bec (len := 150) R9 (by decide) (by decide) (dc 9) (dr 9)
  obtain ⟨g10, e10, S10⟩ := rT_bec (len := 30) R10 (by decide) (by decide) (dc 10) (dr 10)
  obtain ⟨g11, e11, S11⟩ := rT_bec (len := 18) R11 (by decide) (by decide) (dc 11) (dr 11)
  obtain ⟨q1, q2⟩ := id R12
  obtain ⟨g12, e12, s12⟩ := C_bec (len := 3) (wd := 3) (lim := 1) (cells := tc 12) (dc := dc 12) (dr := dr 12) q1 (by decide) (by decide) (by decide)
  have S1 : rTex g1 (tr 1) st := ⟨t1, fun i j hi hj => by rw [s1 _ (by omega)]; exact t2 i j hi hj, t3⟩
  have S2 : rAct actK g2 (tr 2) st (n 1) := ⟨⟨c1, c2, c3⟩, fun i hi => by
    have e : rowf g2 0 104 i = rowf (tc 2) 0 104 i := rowf_eq hi (fun k _ hk => s2 k (by omega))
    rw [e]; exact c4 i hi⟩
  have S12 : rPri g12 (tr 12) st := ⟨q1, fun w hw => by rw [s12 w (by omega)]; exact q2 w hw⟩
  refine ⟨fun i => match i with
    | 0 => g0 | 1 => g1 | 2 => g2 | 3 => g3 | 4 => g4 | 5 => g5 | 6 => g6 | 7 => g7 | 8 => g8 | 9 => g9 | 10 => g10 | 11 => g11 | _ => g12, ?_, n, a, b, S0, S1, S2, S3, S4, S5, S6, S7, S8, S9, S10, S11, S12, R13⟩
  unfold F_X0_become
  exact sbind e0 (sbind e1 (sbind e2 (sbind e3 (sbind e4 (sbind e5 (sbind e6 (sbind e7 (sbind e8 (sbind e9 (sbind e10 (sbind e11 (sbind e12 rfl))))))))))))
theorem C_tail : ∃ z1 z2, F_X0_tail = some (z1, nI 1, z2, nI 4) ∧ (∀ k, z1 k = 0) ∧ ∀ k, z2 k = 0 := by
  obtain ⟨z1, a1, a2⟩ := C_add (len := 3) (lim := 1) (n := 0) (w := 3) (cells := fun _ => 0) (a := 0) (b := 0) (c := 0) (d := 0) (e := 0) (by decide) (by decide) (by decide) (by decide) (by decide) (by decide)
  have hz : ∀ {cells : Nat → Int32} {w n : Nat}, (∀ k, cells k = 0) → ∀ k, addC cells w n 0 0 0 0 0 k = 0 := by
    intro cells w n h k
    unfold addC
    split
    · repeat (first | rfl | split)
    · exact h k
  have hl : ∃ t, itr (B_X0_init_214) FU ((0 : Int32), (fun _ => (0 : Int32)), (0 : Int32)) = some t ∧ ((∀ k, t.2.1 k = 0) ∧ t.2.2 = nI 4) := by
    refine itr_fu (I := fun s => ∃ k, k ≤ 4 ∧ s.1 = nI k ∧ s.2.2 = nI k ∧ ∀ j, s.2.1 j = 0) (μ := fun s => 4 - s.1.toNatClampNeg) _ _ ⟨0, by decide, rfl, rfl, fun _ => rfl⟩ (by dsimp only; omega) ?_
    rintro ⟨i', f, r'⟩ ⟨k, q1, q2, q3, q4⟩
    dsimp only at q2 q3 q4
    subst q2 q3
    unfold B_X0_init_214
    dsimp only
    by_cases h : k < 4
    · left
      obtain ⟨x, b1, b2⟩ := C_add (len := 204) (lim := 4) (n := k) (w := 51) (cells := f) (a := 0) (b := 0) (c := 0) (d := 0) (e := 0) h (by decide) (by decide) (by decide) (by decide) (by decide)
      refine ⟨(nI (k + 1), x, nI (k + 1)), ?_, ⟨k + 1, h, rfl, rfl, fun j => (b2 j).trans (hz q4 j)⟩, ?_⟩
      · rw [if_pos (ltR 4 4 rfl h (by decide))]
        exact sbind b1 (by rw [lt_eq, nI_1])
      · dsimp only
        rw [nI_clamp (by omega), nI_clamp (by omega)]; omega
    · right
      have e : k = 4 := by omega
      subst e
      exact ⟨_, by rw [if_neg (by decide)], q4, rfl⟩
  obtain ⟨t, t1, t2, t3⟩ := hl
  refine ⟨z1, t.2.1, ?_, fun k => by rw [a2 k]; exact hz (fun _ => rfl) k, t2⟩
  unfold F_X0_tail
  refine sbind a1 (sbind t1 ?_)
  rw [t3]
def newC (z1 z2 : Nat → Int32) : Nat → Nat → Int32 := fun i => match i with
  | 1 => z2 | 12 => z1 | _ => fun _ => 0
def newR : Nat → Int32 := fun i => match i with
  | 1 => nI 4 | 12 => nI 1 | _ => 0
def newS : Nat → Int32 := upd (upd (fun _ => 0) 11 10) 12 9
theorem newS_0 {k : Nat} (h1 : k ≠ 11) (h2 : k ≠ 12) : newS k = 0 := by
  unfold newS; rw [pk_un h2, pk_un h1]
theorem REL_NEW {z1 z2 : Nat → Int32} (h1 : ∀ k, z1 k = 0) (h2 : ∀ k, z2 k = 0) : Rel actK (newC z1 z2) newR 10 9 newS := by
  have f : ∀ {lim w wd off cnt : Nat} {Q : (Nat → Int32) → Prop} {cells : Nat → Int32}, cnt ≤ 10 → rT lim w wd off cnt Q cells 0 newS 0 := fun hc => ⟨⟨Nat.zero_le _, rfl, newS_0 (by omega) (by omega)⟩, fun i j hi _ => absurd hi (Nat.not_lt_zero _), fun i hi => absurd hi (Nat.not_lt_zero _)⟩
  refine ⟨fun _ => 0, 10, 9, f (by decide), ⟨rfl, fun i j hi hj => ?_, fun t ht => ⟨0, by decide, newS_0 (by omega) (by omega)⟩⟩, ⟨⟨Nat.zero_le _, rfl, newS_0 (by decide) (by decide)⟩, fun i hi => absurd hi (Nat.not_lt_zero _)⟩, f (by decide), f (by decide), f (by decide), f (by decide), f (by decide), f (by decide), f (by decide), f (by decide), f (by decide), ⟨rfl, fun w hw => ⟨?_, 0, by decide, newS_0 (by omega) (by omega)⟩⟩, by decide, by decide, by decide, by decide, rfl, rfl, rfl, rfl⟩
  · rw [newS_0 (by omega) (by omega)]; exact h2 _
  · rw [newS_0 (by omega) (by omega)]; exact h1 _
/-! the calls -/
theorem M_in01_t {p : Int32} (h : inR p 0 1) : F_X12_in p.toInt64 0 1 = some 1 := M_in_t rfl rfl h
theorem M_image_f {im kp : Nat → Int32} {p : Int32} (h : ¬ inR p 0 1) : F_X12_image im kp st p = some (-2, im, kp) := sbind (M_in_f rfl rfl h) (by rw [if_pos rfl])
theorem M_from_f {im kp : Nat → Int32} {p : Int32} (h : ¬ inR p 0 1) : F_X12_from im kp st p = some (-2, st) := sbind (M_in_f rfl rfl h) (by rw [if_pos rfl])
theorem M_image_t {im kp : Nat → Int32} {p : Nat} (hp : p < 2) : ∃ im', F_X12_image im kp st (nI p) = some (1, im', upd kp p 1) ∧ (∀ k, k < 1951 → im' (1951 * p + k) = st k) ∧ ∀ j, ¬ (1951 * p ≤ j ∧ j < 1951 * p + 1951) → im' j = im j := by
  have hl : ∃ t, itr (B_X12_image_22 st (nI p)) FU ((0 : Int32), im) = some t ∧ ((∀ k, k < 1951 → t.2 (1951 * p + k) = st k) ∧ ∀ j, ¬ (1951 * p ≤ j ∧ j < 1951 * p + 1951) → t.2 j = im j) := by
    refine itr_fu (I := fun s => ∃ i, i ≤ 1951 ∧ s.1 = nI i ∧ (∀ k, k < i → s.2 (1951 * p + k) = st k) ∧ ∀ j, ¬ (1951 * p ≤ j ∧ j < 1951 * p + 1951) → s.2 j = im j) (μ := fun s => 1951 - s.1.toNatClampNeg) _ _ ⟨0, by decide, rfl, fun k h => absurd h (Nat.not_lt_zero _), fun _ _ => rfl⟩ (by dsimp only; omega) ?_
    rintro ⟨i', f⟩ ⟨i, q1, q2, q3, q4⟩
    dsimp only at q2 q3 q4
    subst q2
    unfold B_X12_image_22
    dsimp only
    by_cases h : i < 1951
    · left
      refine ⟨(nI (i + 1), upd f (1951 * p + i) (st i)), ?_, ⟨i + 1, h, rfl, fun k hk => ?_, fun j hj => ?_⟩, ?_⟩
      · rw [if_pos (ltR 1951 1951 rfl h (by decide))]
        refine sbind (M_at h) ?_
        rw [show (1951 : Int32) = nI 1951 from rfl, pk_mul, nI_add]
        exact sbind (sI_at (by omega) (by decide)) (by rw [lt_eq, nI_1])
      · dsimp only
        by_cases e : k = i
        · subst e; rw [pk_us]
        · rw [pk_un (by omega)]; exact q3 k (by omega)
      · dsimp only
        rw [pk_un (by omega)]; exact q4 j hj
      · dsimp only
        rw [nI_clamp (by omega), nI_clamp (by omega)]; omega
    · right
      have e : i = 1951 := by omega
      subst e
      exact ⟨_, by rw [if_neg (by decide)], q3, q4⟩
  obtain ⟨t, t1, t2, t3⟩ := hl
  refine ⟨t.2, sbind (M_in01_t (nI_inR (by omega) (by omega) (by omega))) ?_, t2, t3⟩
  rw [if_neg (by decide)]
  exact sbind (sZ_at (Or.inr rfl) hp (by decide)) (sbind t1 rfl)
theorem M_from_n {im kp : Nat → Int32} {p : Nat} (hp : p < 2) (hk : kp p = 0) : F_X12_from im kp st (nI p) = some (-3, st) := by
  refine sbind (M_in01_t (nI_inR (by omega) (by omega) (by omega))) ?_
  rw [if_neg (by decide)]
  refine sbind (gI_at hp (by decide)) ?_
  rw [hk, if_pos rfl]
theorem M_from_t {im kp : Nat → Int32} {p : Nat} (hp : p < 2) (hk : kp p = 1) : ∃ st', F_X12_from im kp st (nI p) = some (1, st') ∧ ∀ k, k < 1951 → st' k = im (1951 * p + k) := by
  have hl : ∃ t, itr (B_X12_from_27 im (nI p)) FU ((0 : Int32), st) = some t ∧ ∀ k, k < 1951 → t.2 k = im (1951 * p + k) := by
    refine itr_fu (I := fun s => ∃ i, i ≤ 1951 ∧ s.1 = nI i ∧ ∀ k, k < i → s.2 k = im (1951 * p + k)) (μ := fun s => 1951 - s.1.toNatClampNeg) _ _ ⟨0, by decide, rfl, fun k h => absurd h (Nat.not_lt_zero _)⟩ (by dsimp only; omega) ?_
    rintro ⟨i', f⟩ ⟨i, q1, q2, q3⟩
    dsimp only at q2 q3
    subst q2
    unfold B_X12_from_27
    dsimp only
    by_cases h : i < 1951
    · left
      refine ⟨(nI (i + 1), upd f i (im (1951 * p + i))), ?_, ⟨i + 1, h, rfl, fun k hk => ?_⟩, ?_⟩
      · rw [if_pos (ltR 1951 1951 rfl h (by decide)), show (1951 : Int32) = nI 1951 from rfl, pk_mul, nI_add]
        refine sbind (gI_at (by omega) (by decide)) ?_
        exact sbind (sI_at h (by decide)) (by rw [lt_eq, nI_1])
      · dsimp only
        by_cases e : k = i
        · subst e; rw [pk_us]
        · rw [pk_un (by omega)]; exact q3 k (by omega)
      · dsimp only
        rw [nI_clamp (by omega), nI_clamp (by omega)]; omega
    · right
      have e : i = 1951 := by omega
      subst e
      exact ⟨_, by rw [if_neg (by decide)], q3⟩
  obtain ⟨t, t1, t2⟩ := hl
  refine ⟨t.2, sbind (M_in01_t (nI_inR (by omega) (by omega) (by omega))) ?_, t2⟩
  rw [if_neg (by decide)]
  refine sbind (gI_at hp (by decide)) ?_
  rw [hk, if_neg (by decide)]
  exact sbind t1 rfl
theorem C_in01_t {p : Nat} (hp : p < 2) : F_X11_isOut (nI p) 0 ((2 : Int32) - 1) = some 0 := C_out_t (a := 0) (b := 1) rfl rfl (nI_inR (by omega) (by omega) (by omega))
theorem rI_t {p : Nat} (hp : p < 2) : rI 2 (nI p) = some () := by
  unfold rI; rw [nI_toInt (by omega), if_pos ⟨by omega, by omega⟩]
theorem C_image_bad {p : Int32} (h : ¬ inR p 0 1) : F_X11_image_bad p = some (-2) := sbind (C_out_f (a := 0) (b := 1) rfl rfl h) (by rw [if_neg (by decide)])
theorem C_from_bad {p : Int32} (h : ¬ inR p 0 1) : F_X11_from_bad p = some (-2) := sbind (C_out_f (a := 0) (b := 1) rfl rfl h) (by rw [if_neg (by decide)])
theorem C_from_none {p : Nat} (hp : p < 2) : F_X11_from_none (nI p) = some (-3) := sbind (C_in01_t hp) (by rw [if_pos rfl]; exact sbind (rI_t hp) rfl)
end IMG
