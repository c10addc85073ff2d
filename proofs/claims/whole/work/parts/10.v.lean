/-! PURE LAWS 11: the readers, numbers -/
section RDN
variable {tx : Nat → Int32} {n N : Nat} {cells : Nat → Int32} {rows wd t : Int32} {st : Nat → Int32} {pp : Int32} {i : Nat} {f : Nat → Int32} {c h o : Nat} {g : Nat → Sg} {fd nb : Int32} {w : Nat → Int32} {step waits wth : Nat → Int32}
theorem dig_next {v d : Nat} : nI 10 * nI v + (nI (48 + d) - 48) = nI (10 * v + d) ∧ nI 10 * nI v + nI (48 + d) - 48 = nI (10 * v + d) := by
  constructor
  · rw [show (48 : Int32) = nI 48 from rfl, pk_sub (by omega), pk_mul, nI_add, show 10 * v + (48 + d - 48) = 10 * v + d by omega]
  · rw [show (48 : Int32) = nI 48 from rfl, pk_mul, nI_add, pk_sub (by omega), show 10 * v + (48 + d) - 48 = 10 * v + d by omega]
theorem DIGS (H : RdH tx n N cells rows wd t st pp) {b : Nat} {op : Int32} {hh : Int32} {cc : Int32} {s2 : MT} (hs2 : s2.2.2.1 = nI b) : ∀ m k v, b + k + m = n → 1 ≤ k → k ≤ 6 → v < 10 ^ k →
    (∃ k' v', k ≤ k' ∧ k' ≤ 6 ∧ b + k' ≤ n ∧ v' < 1000000 ∧ (b + k' < n → ¬ dig (tx (b + k'))) ∧ (∀ tC a, Ev (B_X7_read_40 (nI n) N cells rows wd t) (nI (b + k'), f, cc, nI k', -1, nI b, nI v', op, 0, w, hh) tC a → Ev (B_X7_read_40 (nI n) N cells rows wd t) (nI (b + k), f, cc, nI k, -1, nI b, nI v, op, 0, w, hh) tC (a + (k' - k))) ∧ Ev (B_X12_reads_226 (nI n) st pp s2) (nI (b + k), nI v) (.inl (nI (b + k'), nI v')) (m + 1)) ∨
    (∃ (tC : CT) (z : MF), tC.2.2.2.2.1 = 10 * nI b + 2 ∧ Ev (B_X7_read_40 (nI n) N cells rows wd t) (nI (b + k), f, cc, nI k, -1, nI b, nI v, op, 0, w, hh) tC (m + 1) ∧ Ev (B_X12_reads_226 (nI n) st pp s2) (nI (b + k), nI v) (.inr z) (m + 1) ∧ z.1 = 10 * nI b + 2) := by
  intro m
  have h50 := H.1
  induction m with
  | zero =>
    intro k v e h1 h6 hv
    refine Or.inl ⟨k, v, Nat.le_refl _, h6, by omega, Nat.lt_of_lt_of_le hv (Nat.pow_le_pow_right (n := 10) (by omega) h6), fun z => absurd z (by omega), fun tC a q => by rw [Nat.sub_self]; exact q, Ev_out ?_ (by omega)⟩
    unfold B_X12_reads_226
    dsimp only
    rw [if_neg (nI_nlt (by omega) (by omega))]
  | succ m ih =>
    intro k v e h1 h6 hv
    have hi : b + k < n := by omega
    have hv6 : v < 1000000 := Nat.lt_of_lt_of_le hv (Nat.pow_le_pow_right (n := 10) (by omega) h6)
    by_cases hd : dig (tx (b + k))
    · obtain ⟨d, hd1, hd2⟩ := dig_of hd
      by_cases hk6 : k = 6
      · subst hk6
        right
        refine ⟨_, (10 * nI b + 2, s2.2.2.2.1, s2.2.2.2.2.1, s2.2.2.2.2.2.1, s2.2.2.2.2.2.2.1, s2.2.2.2.2.2.2.2), rfl, Ev_in (CS H hi (by rw [C_take_d hd, C_dig_6]; rfl)) (Ev_out (b := 1) (CO (Or.inl (flt2 (by omega)))) (Nat.le_refl _)) (by omega), Ev_out ?_ (by omega), rfl⟩
        unfold B_X12_reads_226
        dsimp only
        rw [if_pos (nI_lt hi (by omega))]
        refine sbind (H.2.2 _ hi) (sbind (M_in_t rfl rfl hd) ?_)
        rw [if_neg (by decide), if_pos (by rw [hs2, pk_sub (by omega), show b + 6 - b = 6 by omega]; rfl), hs2]
      · have hstepC := CS (f := f) (c := cc) (dg := nI k) (fd := nI b) (nb := nI v) (op := op) (du := 0) (w := w) (h := hh) H hi (by rw [C_take_d hd, C_dig_n h1 (by omega)]; rfl)
        have hn1 : 10 * nI v + (tx (b + k) - 48) = nI (10 * v + d) := by rw [hd2]; exact dig_next.1
        have hn2 : 10 * nI v + tx (b + k) - 48 = nI (10 * v + d) := by rw [hd2]; exact dig_next.2
        have hstepM : B_X12_reads_226 (nI n) st pp s2 (nI (b + k), nI v) = some (.inl (nI (b + (k + 1)), nI (10 * v + d))) := by
          unfold B_X12_reads_226
          dsimp only
          rw [if_pos (nI_lt hi (by omega))]
          refine sbind (H.2.2 _ hi) (sbind (M_in_t rfl rfl hd) ?_)
          rw [if_neg (by decide), if_neg (by rw [hs2, pk_sub (by omega), show b + k - b = k by omega]; exact neR 6 6 rfl (by omega) (by decide) hk6)]
          refine sbind (H.2.2 _ hi) ?_
          rw [lt_eq, lt_eq, hn2, nI_1]; rfl
        rw [hn1] at hstepC
        have hpow : 10 * v + d < 10 ^ (k + 1) := by rw [Nat.pow_succ]; omega
        rcases ih (k + 1) (10 * v + d) (by omega) (by omega) (by omega) hpow with ⟨k', v', a1, a2, a3, a4, a5, a6, a7⟩ | ⟨tC, z, a1, a2, a3, a4⟩
        · exact Or.inl ⟨k', v', by omega, a2, a3, a4, a5, fun tC a q => Ev_in hstepC (a6 tC a q) (by omega), Ev_in hstepM a7 (by omega)⟩
        · exact Or.inr ⟨tC, z, a1, Ev_in hstepC a2 (by omega), Ev_in hstepM a3 (by omega), a4⟩
    · refine Or.inl ⟨k, v, Nat.le_refl _, h6, by omega, hv6, fun _ => hd, fun tC a q => by rw [Nat.sub_self]; exact q, Ev_out ?_ (by omega)⟩
      unfold B_X12_reads_226
      dsimp only
      rw [if_pos (nI_lt hi (by omega))]
      refine sbind (H.2.2 _ hi) (sbind (M_in_f rfl rfl hd) ?_)
      rw [if_pos rfl]
theorem D_dig (H : RdH tx n N cells rows wd t st pp) (hi : i < n) (IH : ∀ j, i < j → j ≤ n → RdI tx n N cells rows wd t st pp j) (ho : o ≤ 8) (hoc : o = nOp g h) (hb : c + h ≤ i) (hS : Shp g h) (hw : clo w g h) (hm : mlo waits g h) (hk : KD f step wth c (wsm g h)) (hd : dig (tx i)) :
    RdF tx n N cells rows wd t st pp (nI i, f, nI c, 0, -1, fd, nb, nI o, 1, w, nI h) (nI o, 0, nI i, step, nI c, nI h, waits, wth) i := by
  have h50 := H.1
  obtain ⟨d, hd1, hd2⟩ := dig_of hd
  have h32 : tx i ≠ 32 := fun e => absurd hd (by rw [e]; unfold dig inR; decide)
  have hstepC := CS (f := f) (c := nI c) (dg := 0) (fd := fd) (nb := nb) (op := nI o) (du := 1) (w := w) (h := nI h) H hi (by rw [C_take_d hd, C_dig_1]; rfl)
  have hn1 : tx i - 48 = nI d := by rw [hd2, show (48 : Int32) = nI 48 from rfl, pk_sub (by omega), show 48 + d - 48 = d by omega]
  have hn2 : 10 * (0 : Int32) + tx i - 48 = nI d := by
    rw [hd2]
    have := (dig_next (v := 0) (d := d)).2
    rw [show 10 * 0 + d = d by omega] at this
    exact this
  rw [hn1] at hstepC
  have hstepM : B_X12_reads_226 (nI n) st pp (nI o, 0, nI i, step, nI c, nI h, waits, wth) (nI i, 0) = some (.inl (nI (i + 1), nI d)) := by
    unfold B_X12_reads_226
    dsimp only
    rw [if_pos (nI_lt hi (by omega))]
    refine sbind (H.2.2 _ hi) (sbind (M_in_t rfl rfl hd) ?_)
    rw [if_neg (by decide), if_neg (by rw [pk_sub (by omega), Nat.sub_self]; decide)]
    refine sbind (H.2.2 _ hi) ?_
    rw [lt_eq, lt_eq, hn2, nI_1]
  have hout : ∀ z : (Int32 × Int32) ⊕ MF, Ev (B_X12_reads_226 (nI n) st pp (nI o, 0, nI i, step, nI c, nI h, waits, wth)) (nI (i + 1), nI d) z (n - (i + 1) + 1) → itr (B_X12_reads_226 (nI n) st pp (nI o, 0, nI i, step, nI c, nI h, waits, wth)) FU (nI i, 0) = some z := fun z q => Ev_in (b := 1000) hstepM q (by omega) FU (by unfold FU; omega)
  rcases DIGS (f := f) (w := w) (op := nI o) (hh := nI h) (cc := nI c) H (b := i) (s2 := (nI o, 0, nI i, step, nI c, nI h, waits, wth)) rfl (n - (i + 1)) 1 d (by omega) (by omega) (by omega) (by omega) with ⟨k', v', a1, a2, a3, a4, a5, a6, a7⟩ | ⟨tC, z, a1, a2, a3, a4⟩
  · obtain ⟨step2, wth2, q, e1, e2, e3, e4, e5, e6, e7⟩ := UNI (x := nI v') (a := 0) (b := nI v') hm hk (by omega) (fun f2 s2 w2 a b c => Or.inl ⟨v', a4, a, b, c, rfl⟩)
    have hX : RdX tx n (i + k') f (nI c) (nI k') (nI v') (nI o) 0 w (nI h) (nI o) 1 step2 (nI (c + 1 + (h - q))) (nI q) waits wth2 :=
      ⟨g, c + 1, h, o, _, ⟨rfl, rfl, ho, hoc, rfl, by omega, hS, hw, C_end_n a1 a2 (by omega)⟩, Or.inr ⟨rfl, rfl, Or.inr a5, q, e1, rfl, rfl, e5, e6, e7⟩⟩
    obtain ⟨tC, tM, b1, b2, b3⟩ := IH (i + k') (by omega) a3 f (nI c) (nI k') (nI i) (nI v') (nI o) 0 w (nI h) (nI o) 1 step2 (nI (c + 1 + (h - q))) (nI q) waits wth2 hX
    refine ⟨tC, tM, Ev_in hstepC (a6 tC _ b1) (by omega), Ev_in ?_ b2 (by omega), b3⟩
    unfold B_X12_reads_25
    dsimp only
    rw [if_pos (nI_lt hi (by omega))]
    refine sbind (H.2.2 i hi) ?_
    rw [if_neg h32, if_pos rfl]
    refine sbind (M_in_t rfl rfl hd) ?_
    rw [if_neg (by decide)]
    refine sbind (hout _ a7) ?_
    show Option.bind _ _ = _
    exact sbind e3 (sbind e4 rfl)
  · refine ⟨tC, .inr z, Ev_in hstepC a2 (by omega), Ev_out ?_ (by omega), Or.inl ⟨10 * nI i + 2, flt2 (by omega), a1, z, rfl, a4⟩⟩
    unfold B_X12_reads_25
    dsimp only
    rw [if_pos (nI_lt hi (by omega))]
    refine sbind (H.2.2 i hi) ?_
    rw [if_neg h32, if_pos rfl]
    refine sbind (M_in_t rfl rfl hd) ?_
    rw [if_neg (by decide)]
    refine sbind (hout _ a3) ?_
    rfl
end RDN
