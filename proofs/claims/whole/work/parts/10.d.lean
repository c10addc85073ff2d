/-! PURE LAWS 5: calls that add a row -/
theorem M_at {st : Nat → Int32} {k : Nat} (h : k < 1951) : gI st 1951 (nI k) = some (st k) := gI_at h (by decide)
theorem M_set {st : Nat → Int32} {k : Nat} {x : Int32} (h : k < 1951) : sI st 1951 (nI k) x = some (upd st k x) := sI_at h (by decide)
theorem M_one {st : Nat → Int32} {c n : Nat} (hc : c < 1951) (h : st c = nI n) (hn : n < 2 ^ 31 - 1) : F_X12_one st (nI c) = some (nI n, upd st c (nI (n + 1))) := by
  unfold F_X12_one
  refine sbind (M_at hc) (sbind (M_set hc) (sbind (M_at hc) ?_))
  rw [pk_us, h, nI_1, nI_pred]
theorem ne_nI {a b : Nat} (ha : a < 2 ^ 31) (hb : b < 2 ^ 31) (h : a ≠ b) : ¬ nI a = nI b := fun e => h ((nI_eq ha hb).mp e)
section MER
variable {AK : (Nat → Int32) → (Nat → Int32) → Prop} {tc : Nat → Nat → Int32} {tr : Nat → Int32} {nar nam : Int32} {st : Nat → Int32}
theorem P_merchant (h : Rel AK tc tr nar nam st) (p0 p1 : Int32) : ∃ (r : Int32) (x : Nat → Int32) (y : Int32) (st' : Nat → Int32), F_X11_merchant (tc 0) (tr 0) p0 p1 = some (r, x, y) ∧ F_X12_merchant st p0 p1 = some (r, st') ∧ Rel AK (va_up tc 0 x) (va_up tr 0 y) nar nam st' := by
  have hsame : Rel AK (va_up tc 0 (tc 0)) (va_up tr 0 (tr 0)) nar nam st := by
    have e1 : va_up tc 0 (tc 0) = tc := by funext k; unfold va_up; split <;> simp_all
    have e2 : va_up tr 0 (tr 0) = tr := by funext k; unfold va_up; split <;> simp_all
    rw [e1, e2]; exact h
  unfold F_X11_merchant F_X12_merchant
  by_cases h0 : inR p0 0 4
  · by_cases h1 : inR p1 0 1
    · obtain ⟨n, a, b, R0, R1, R2, R3, R4, R5, R6, R7, R8, R9, R10, R11, R12, R13⟩ := id h
      obtain ⟨⟨q1, q2, q3⟩, -, -⟩ := id R0
      rw [C_out_t rfl rfl h0, M_in_t rfl rfl h0]
      by_cases hn : n 0 = 10
      · refine ⟨-4, tc 0, tr 0, st, ?_, ?_, hsame⟩
        · refine sbind rfl ?_
          rw [if_pos rfl, C_out_t rfl rfl h1]
          refine sbind rfl ?_
          rw [if_pos rfl, q2, hn]
          refine sbind (C_full (lim := 10) (by decide) (by decide)) ?_
          rfl
        · refine sbind rfl ?_
          rw [if_neg (by decide), M_in_t rfl rfl h1]
          refine sbind rfl ?_
          rw [if_neg (by decide)]
          refine sbind (M_at (k := 0) (by decide)) ?_
          rw [q3, hn]; rfl
      · obtain ⟨x, hx1, hx2⟩ := C_add (len := 20) (lim := 10) (n := n 0) (w := 2) (cells := tc 0) (a := p0) (b := p1) (c := 0) (d := 0) (e := 0) (by omega) (by decide) (by decide) (by decide) (by decide) (by decide)
        refine ⟨nI (n 0), x, nI (n 0 + 1), upd (upd (upd st (20 + 2 * n 0) p0) (20 + 2 * n 0 + 1) p1) 0 (nI (n 0 + 1)), ?_, ?_, ?_⟩
        · refine sbind rfl ?_
          rw [if_pos rfl, C_out_t rfl rfl h1]
          refine sbind rfl ?_
          rw [if_pos rfl, q2]
          refine sbind (x := (0 : Int32)) (by rw [show (10 : Int32) = nI 10 from rfl, C_full (by omega) (by decide), if_neg (by omega)]) ?_
          rw [if_pos rfl]
          exact sbind hx1 rfl
        · refine sbind rfl ?_
          rw [if_neg (by decide), M_in_t rfl rfl h1]
          refine sbind rfl ?_
          rw [if_neg (by decide)]
          have g0 : gI st 1951 0 = some (nI (n 0)) := by rw [← q3]; exact M_at (k := 0) (by decide)
          refine sbind g0 ?_
          rw [show (10 : Int32) = nI 10 from rfl, if_neg (ne_nI (by omega) (by decide) hn)]
          refine sbind g0 ?_
          rw [show (20 : Int32) = nI 20 from rfl, show (2 : Int32) = nI 2 from rfl, pk_mul, nI_add]
          refine sbind (M_set (by omega)) ?_
          refine sbind (x := nI (n 0)) (by rw [show (0 : Int32) = nI 0 from rfl, M_at (by decide), pk_un (by omega)]; exact congrArg some q3) ?_
          rw [pk_mul, nI_add, nI_1]
          refine sbind (M_set (by omega)) ?_
          exact sbind (M_one (c := 0) (by decide) (by rw [pk_un (by omega), pk_un (by omega)]; exact q3) (by omega)) rfl
        · have hs : ∀ k, k ≠ 20 + 2 * n 0 → k ≠ 20 + 2 * n 0 + 1 → k ≠ 0 → upd (upd (upd st (20 + 2 * n 0) p0) (20 + 2 * n 0 + 1) p1) 0 (nI (n 0 + 1)) k = st k := fun k a b c => by rw [pk_un c, pk_un b, pk_un a]
          have mono : ∀ f, f ≤ n 0 → f ≤ n 0 + 1 := fun f h => by omega
          refine ⟨fun k => if k = 0 then n 0 + 1 else n k, a, b, ?_⟩
          refine ⟨?_, ?_, ?_, ?_, ?_, ?_, ?_, ?_, ?_, ?_, ?_, ?_, ?_, ?_⟩
          · refine rT_add R0 (by omega) (by decide) (fun k hk => by rw [vu_s, hx2, addC_old hk]) (fun k h1 h2 => hs k (by omega) (by omega) (by omega)) pk_us (fun j hj => ?_) trivial
            rw [vu_s, hx2]
            unfold addC upd
            rcases (show j = 0 ∨ j = 1 by omega) with rfl | rfl
            · (repeat' split) <;> first | rfl | omega
            · (repeat' split) <;> first | rfl | omega
          · exact rTex_frame R1 (fun k h1 h2 => hs k (by omega) (by omega) (by omega))
          · exact rAct_frame R2 (fun k h1 h2 => hs k (by omega) (by omega) (by omega)) (hs 1 (by omega) (by omega) (by omega))
          · exact rT_mono (rT_frame R3 (fun k h1 h2 => hs k (by omega) (by omega) (by omega)) (hs 2 (by omega) (by omega) (by omega))) (fun f ⟨a, b, s, l, d, z1, z2, z⟩ => ⟨a, b, s, l, d, Nat.lt_succ_of_lt z1, Nat.lt_succ_of_lt z2, z⟩)
          · exact rT_frame R4 (fun k h1 h2 => hs k (by omega) (by omega) (by omega)) (hs 3 (by omega) (by omega) (by omega))
          · exact rT_mono (rT_frame R5 (fun k h1 h2 => hs k (by omega) (by omega) (by omega)) (hs 4 (by omega) (by omega) (by omega))) (fun f ⟨m, e, p, sh, z1, z2, z3, z4, z5, z6, z7, z8, z9, z10⟩ => ⟨m, e, p, sh, Nat.lt_succ_of_lt z1, z2, z3, z4, z5, z6, z7, z8, fun j hj => z9 j (Nat.le_of_succ_le hj), z10⟩)
          · exact rT_frame R6 (fun k h1 h2 => hs k (by omega) (by omega) (by omega)) (hs 5 (by omega) (by omega) (by omega))
          · exact rT_frame R7 (fun k h1 h2 => hs k (by omega) (by omega) (by omega)) (hs 6 (by omega) (by omega) (by omega))
          · exact rT_frame R8 (fun k h1 h2 => hs k (by omega) (by omega) (by omega)) (hs 7 (by omega) (by omega) (by omega))
          · exact rT_mono (rT_frame R9 (fun k h1 h2 => hs k (by omega) (by omega) (by omega)) (hs 8 (by omega) (by omega) (by omega))) (fun f ⟨a, b, s, c, z1, z2, z⟩ => ⟨a, b, s, c, Nat.lt_succ_of_lt z1, Nat.lt_succ_of_lt z2, z⟩)
          · exact rT_frame R10 (fun k h1 h2 => hs k (by omega) (by omega) (by omega)) (hs 9 (by omega) (by omega) (by omega))
          · exact rT_mono (rT_frame R11 (fun k h1 h2 => hs k (by omega) (by omega) (by omega)) (hs 10 (by omega) (by omega) (by omega))) (fun f ⟨a, w, c, z1, z⟩ => ⟨a, w, c, Nat.lt_succ_of_lt z1, z⟩)
          · exact rPri_frame R12 (fun k h1 h2 => hs k (by omega) (by omega) (by omega))
          · exact rNum_frame R13 (hs 11 (by omega) (by omega) (by omega)) (hs 12 (by omega) (by omega) (by omega))
    · rw [C_out_t rfl rfl h0, M_in_t rfl rfl h0]
      refine ⟨-2, tc 0, tr 0, st, ?_, ?_, hsame⟩
      · refine sbind rfl ?_
        rw [if_pos rfl, C_out_f rfl rfl h1]
        rfl
      · refine sbind rfl ?_
        rw [if_neg (by decide), M_in_f rfl rfl h1]
        rfl
  · rw [C_out_f rfl rfl h0, M_in_f rfl rfl h0]
    exact ⟨-2, tc 0, tr 0, st, rfl, rfl, hsame⟩
end MER
