/-! PURE LAWS 14: a text is read alike; its codes are worked alike -/
theorem two_sm_l {α β S Z : Type} {E1 : Option α} {y : S} {K : S → Option β} {W : Z → β} {P : α → β → Prop} (h : Two E1 (K y) P) : Two E1 (sm (.inl y) K W) P := h
theorem READ {tx : Nat → Int32} {n N p : Nat} {cells : Nat → Int32} {rows wd t : Int32} {st : Nat → Int32} (H : RdH tx n N cells rows wd t st (nI p)) (hg : F_X8_get N cells rows wd t 0 = some (nI n)) (hs : gI st 1951 (nI p) = some (nI n))
    (codes : Nat → Int32) (count digits fault fd nb op du : Int32) (waiting : Nat → Int32) (wts : Int32) (step : Nat → Int32) (steps mw : Int32) (waits wth : Nat → Int32) :
    Two (F_X7_read N cells rows wd codes count digits fault fd nb op du waiting wts t) (F_X12_reads st step steps mw waits wth (nI p)) (fun o1 o2 => o1.1 = o2.1 ∧ (o1.1 = -1 → ∃ k : Nat, k ≤ n ∧ o1.2.2.1 = nI k ∧ o2.2.2.1 = nI k ∧ KD o1.2.1 o2.2.1 o2.2.2.2.2.2 k 1)) := by
  have h50 := H.1
  have hX : RdX tx n 0 codes 0 0 nb 0 1 waiting 0 0 0 step 0 0 waits wth :=
    ⟨fun _ => Sg.op, 0, 0, 0, codes, ⟨rfl, rfl, by omega, rfl, rfl, by omega, fun k hk => absurd hk (by omega), fun k hk => absurd hk (by omega), rfl⟩, Or.inl ⟨rfl, rfl, rfl, rfl, rfl, fun k hk => absurd hk (by omega), rfl⟩⟩
  obtain ⟨tC, tM, e1, e2, e3⟩ := RdAll H n 0 (by omega) codes 0 0 fd nb 0 1 waiting 0 0 0 step 0 0 waits wth hX
  have f1 := e1 FU (by unfold FU; omega)
  have f2 := e2 FU (by unfold FU; omega)
  unfold F_X7_read F_X12_reads
  refine two_l hg (two_r hs (two_l f1 (two_r f2 ?_)))
  rcases e3 with ⟨x, hx, hf, z, rfl, hz⟩ | ⟨hf, y, rfl, hY⟩
  · refine two_l (x := (tC.2.1, tC.2.2.1, tC.2.2.2.1, tC.2.2.2.2.1, tC.2.2.2.2.2.2.2.2.2.2)) (by rw [if_neg (by rw [hf]; exact hx)]) ?_
    refine ⟨_, z, rfl, rfl, ?_, fun e => absurd e ?_⟩
    · dsimp only; rw [hf, hz]
    · dsimp only; rw [hf]; exact hx
  · obtain ⟨g, c, h, o, f, ⟨x1, x2, x3, x4, x5, x6, x7, x8, x9⟩, hC⟩ := hY
    rcases hC with ⟨y1, y2, y3, y4, y5, y6, y7⟩ | ⟨y1, y2, y3, q, y4, y5, y6, y7, y8, y9⟩
    · have hrel := C_release (f := f) (c := c) (r := 1) x8 (by omega) (by omega) (by omega)
      have hend : ∃ z, F_X7_end tC.2.1 tC.2.2.1 tC.2.2.2.1 tC.2.2.2.2.1 tC.2.2.2.2.2.2.1 tC.2.2.2.2.2.2.2.2.1 tC.2.2.2.2.2.2.2.2.2.1 tC.2.2.2.2.2.2.2.2.2.2 (nI n) = some z ∧ z.2.2.2.1 = 10 * nI n + 1 := by
        refine ⟨(emit f c (fun j => (g (h - 1 - j)).kc) (h - popw (pC 1) g h), nI (c + (h - popw (pC 1) g h)), 0, 10 * nI n + 1, nI (popw (pC 1) g h)), ?_, rfl⟩
        unfold F_X7_end
        refine sbind x9 ?_
        rw [x5]
        refine sbind hrel ?_
        rw [y1]
        rfl
      obtain ⟨z, hz1, hz2⟩ := hend
      refine two_l (by rw [if_pos hf]; exact sbind hz1 rfl) (two_sm_l ?_)
      dsimp only
      refine two_r (by rw [if_pos y2]) (two_end ⟨hz2, fun e => absurd e ?_⟩)
      dsimp only
      rw [hz2]; exact flt1 (by omega)
    · obtain ⟨f2', step2, wth2, u, u1, u2, u3, u4, u5, u6, u7⟩ := CLO (q6 := q) x8 y4 y7 y8 y9 x7 (by omega)
      have hend : F_X7_end tC.2.1 tC.2.2.1 tC.2.2.2.1 tC.2.2.2.2.1 tC.2.2.2.2.2.2.1 tC.2.2.2.2.2.2.2.2.1 tC.2.2.2.2.2.2.2.2.2.1 tC.2.2.2.2.2.2.2.2.2.2 (nI n) = some (f2', nI (c + (h - u)), 0, if u = 0 then -1 else 10 * nI n + 1, nI u) := by
        unfold F_X7_end
        refine sbind x9 ?_
        rw [x5]
        refine sbind u3 ?_
        refine sbind (x := if u = 0 then -1 else 10 * nI n + 1) ?_ rfl
        rw [if_pos y1]
        dsimp only
        by_cases hu : u = 0
        · rw [if_pos hu, if_neg (by rw [hu]; decide), hf]
        · rw [if_neg hu, if_pos (ltL 0 0 rfl (by omega) (by omega))]; rfl
      refine two_l (by rw [if_pos hf]; exact sbind hend rfl) (two_sm_l ?_)
      dsimp only
      by_cases hu : u = 0
      · refine two_r (x := (-1, step2, nI (c + (h - u)), nI u, wth2)) ?_ (two_end ⟨by dsimp only; rw [if_pos hu], fun _ => ⟨c + (h - u), by omega, rfl, rfl, ?_⟩⟩)
        · rw [if_neg (by rw [y2]; decide), y5, y6]
          refine sbind u4 ?_
          dsimp only
          rw [if_pos (by rw [if_pos hu])]
        · rw [hu] at u5 ⊢; exact u5
      · refine two_r (x := (10 * nI n + 1, step2, nI (c + (h - u)), nI u, wth2)) ?_ (two_end ⟨by dsimp only; rw [if_neg hu], fun e => absurd e ?_⟩)
        · rw [if_neg (by rw [y2]; decide), y5, y6]
          refine sbind u4 ?_
          dsimp only
          rw [if_neg (by rw [if_neg hu]; exact (ms_inj _).2.2.1)]
        · dsimp only; rw [if_neg hu]; exact flt1 (by omega)
theorem KD_dp {f step wth : Nat → Int32} : ∀ {c d : Nat}, KD f step wth c d → ∃ dp : Nat → Nat, dp 0 = 0 ∧ dp c = d ∧ ∀ k, k < c → CK f step wth k (dp k) (dp (k + 1))
  | 0, d, h => ⟨fun _ => 0, rfl, h.symm, fun k hk => absurd hk (Nat.not_lt_zero _)⟩
  | c + 1, d, ⟨d0, h1, h2⟩ => by
    obtain ⟨dp, a, b, e⟩ := KD_dp h1
    refine ⟨fun k => if k ≤ c then dp k else d, ?_, ?_, fun k hk => ?_⟩
    · show (if 0 ≤ c then dp 0 else d) = 0
      rw [if_pos (by omega), a]
    · show (if c + 1 ≤ c then dp (c + 1) else d) = d
      rw [if_neg (by omega)]
    · show CK f step wth k (if k ≤ c then dp k else d) (if k + 1 ≤ c then dp (k + 1) else d)
      rw [if_pos (by omega)]
      by_cases hkc : k < c
      · rw [if_pos (by omega)]; exact e k hkc
      · rw [if_neg (by omega), show k = c by omega, b]; exact h2
theorem CK_up {f step wth : Nat → Int32} {k d d' : Nat} (h : CK f step wth k d d') : d' ≤ d + 1 := by
  rcases h with ⟨v, _, _, _, _, h⟩ | ⟨v, _, _, _, _, h⟩ | ⟨s, _, _, _, _, _, h⟩ <;> omega
theorem C_pop {d : Nat} {sk : Nat → Int64} (h : 0 < d) (h2 : d ≤ 50) : F_X1_pop (nI d) sk = some (sk (d - 1), nI (d - 1)) := by
  unfold F_X1_pop
  rw [if_pos (ltL 0 0 rfl h (by omega)), if_neg (nltL 50 50 rfl h2 (by decide)), lt_eq, show (1 : Int32) = nI 1 from rfl, pk_sub h]
  exact sbind (gL_at (by omega) (by decide)) rfl
theorem C_psh {d : Nat} {sk : Nat → Int64} {x : Int64} (h : d < 50) : F_X1_push (nI d) sk x = some (nI (d + 1), vp_updL sk d x) := by
  unfold F_X1_push
  refine sbind (x := (nI (d + 1), vp_updL sk d x)) ?_ rfl
  rw [if_neg (nI_pos (by omega)), if_pos (ltR 50 50 rfl h (by decide))]
  refine sbind (sL_at h (by decide)) ?_
  rw [lt_eq, nI_1]
theorem tw_mu (a b : Int64) : F_X1_joined 42 a b = some (a * b) ∧ F_X12_twoOf 4 a b = some (a * b) ∧ ∃ x, some (a * b) = some x := by
  refine ⟨?_, ?_, ?_⟩
  · unfold F_X1_joined
    rw [if_neg (by decide), if_pos rfl]
  · unfold F_X12_twoOf
    rw [if_pos rfl]
  · exact ⟨_, rfl⟩
theorem tw_di (a b : Int64) : F_X1_joined 47 a b = (Option.bind (if b = (0 : Int64) then some (0 : Int64) else Option.bind (qL a b) fun t => some t) fun j => some j) ∧ F_X12_twoOf 5 a b = (Option.bind (if b = (0 : Int64) then some (0 : Int64) else Option.bind (qL a b) fun t => some t) fun j => some j) ∧ ∃ x, (Option.bind (if b = (0 : Int64) then some (0 : Int64) else Option.bind (qL a b) fun t => some t) fun j => some j) = some x := by
  refine ⟨?_, ?_, ?_⟩
  · unfold F_X1_joined
    rw [if_neg (by decide), if_neg (by decide), if_neg (by decide), if_neg (by decide), if_pos rfl]
  · unfold F_X12_twoOf
    rw [if_neg (by decide), if_pos rfl]
  · by_cases h : b = 0
    · rw [if_pos h]; exact ⟨_, rfl⟩
    · rw [if_neg h]; unfold qL; rw [if_neg h]; exact ⟨_, rfl⟩
theorem tw_pl (a b : Int64) : F_X1_joined 43 a b = some (a + b) ∧ F_X12_twoOf 6 a b = some (a + b) ∧ ∃ x, some (a + b) = some x := by
  refine ⟨?_, ?_, ?_⟩
  · unfold F_X1_joined
    rw [if_neg (by decide), if_neg (by decide), if_pos rfl]
  · unfold F_X12_twoOf
    rw [if_neg (by decide), if_neg (by decide), if_pos rfl]
  · exact ⟨_, rfl⟩
theorem tw_mi (a b : Int64) : F_X1_joined 45 a b = some (a - b) ∧ F_X12_twoOf 7 a b = some (a - b) ∧ ∃ x, some (a - b) = some x := by
  refine ⟨?_, ?_, ?_⟩
  · unfold F_X1_joined
    rw [if_neg (by decide), if_neg (by decide), if_neg (by decide), if_pos rfl]
  · unfold F_X12_twoOf
    rw [if_neg (by decide), if_neg (by decide), if_neg (by decide), if_pos rfl]
  · exact ⟨_, rfl⟩
theorem tw_lw (a b : Int64) : F_X1_joined 60 a b = (Option.bind (if a < b then some (1 : Int64) else some (0 : Int64)) fun j => some j) ∧ F_X12_twoOf 8 a b = (Option.bind (if a < b then some (1 : Int64) else some (0 : Int64)) fun j => some j) ∧ ∃ x, (Option.bind (if a < b then some (1 : Int64) else some (0 : Int64)) fun j => some j) = some x := by
  refine ⟨?_, ?_, ?_⟩
  · unfold F_X1_joined
    rw [if_neg (by decide), if_neg (by decide), if_neg (by decide), if_neg (by decide), if_neg (by decide), if_pos rfl]
  · unfold F_X12_twoOf
    rw [if_neg (by decide), if_neg (by decide), if_neg (by decide), if_neg (by decide), if_pos rfl]
  · (repeat' split) <;> exact ⟨_, rfl⟩
theorem tw_gt (a b : Int64) : F_X1_joined 62 a b = (Option.bind (if b < a then some (1 : Int64) else some (0 : Int64)) fun j => some j) ∧ F_X12_twoOf 9 a b = (Option.bind (if b < a then some (1 : Int64) else some (0 : Int64)) fun j => some j) ∧ ∃ x, (Option.bind (if b < a then some (1 : Int64) else some (0 : Int64)) fun j => some j) = some x := by
  refine ⟨?_, ?_, ?_⟩
  · unfold F_X1_joined
    rw [if_neg (by decide), if_neg (by decide), if_neg (by decide), if_neg (by decide), if_neg (by decide), if_neg (by decide), if_neg (by decide), if_pos rfl]
  · unfold F_X12_twoOf
    rw [if_neg (by decide), if_neg (by decide), if_neg (by decide), if_neg (by decide), if_neg (by decide), if_pos rfl]
  · (repeat' split) <;> exact ⟨_, rfl⟩
theorem tw_eq (a b : Int64) : F_X1_joined 61 a b = (Option.bind (if a = b then some (1 : Int64) else some (0 : Int64)) fun j => some j) ∧ F_X12_twoOf 10 a b = (Option.bind (if a = b then some (1 : Int64) else some (0 : Int64)) fun j => some j) ∧ ∃ x, (Option.bind (if a = b then some (1 : Int64) else some (0 : Int64)) fun j => some j) = some x := by
  refine ⟨?_, ?_, ?_⟩
  · unfold F_X1_joined
    rw [if_neg (by decide), if_neg (by decide), if_neg (by decide), if_neg (by decide), if_neg (by decide), if_neg (by decide), if_pos rfl]
  · unfold F_X12_twoOf
    rw [if_neg (by decide), if_neg (by decide), if_neg (by decide), if_neg (by decide), if_neg (by decide), if_neg (by decide), if_pos rfl]
  · (repeat' split) <;> exact ⟨_, rfl⟩
theorem tw_an (a b : Int64) : F_X1_joined 38 a b = (Option.bind (if a = (0 : Int64) then some (0 : Int64) else if b = (0 : Int64) then some (0 : Int64) else some (1 : Int64)) fun j => some j) ∧ F_X12_twoOf 11 a b = (Option.bind (if a = (0 : Int64) then some (0 : Int64) else if b = (0 : Int64) then some (0 : Int64) else some (1 : Int64)) fun j => some j) ∧ ∃ x, (Option.bind (if a = (0 : Int64) then some (0 : Int64) else if b = (0 : Int64) then some (0 : Int64) else some (1 : Int64)) fun j => some j) = some x := by
  refine ⟨?_, ?_, ?_⟩
  · unfold F_X1_joined
    rw [if_pos rfl]
  · unfold F_X12_twoOf
    rw [if_neg (by decide), if_neg (by decide), if_neg (by decide), if_neg (by decide), if_neg (by decide), if_neg (by decide), if_neg (by decide), if_pos rfl]
  · (repeat' split) <;> exact ⟨_, rfl⟩
theorem tw_oo (a b : Int64) : F_X1_joined 124 a b = (Option.bind (if a = (0 : Int64) then (if b = (0 : Int64) then some (0 : Int64) else some (1 : Int64)) else some (1 : Int64)) fun j => some j) ∧ F_X12_twoOf 12 a b = (Option.bind (if a = (0 : Int64) then (if b = (0 : Int64) then some (0 : Int64) else some (1 : Int64)) else some (1 : Int64)) fun j => some j) ∧ ∃ x, (Option.bind (if a = (0 : Int64) then (if b = (0 : Int64) then some (0 : Int64) else some (1 : Int64)) else some (1 : Int64)) fun j => some j) = some x := by
  refine ⟨?_, ?_, ?_⟩
  · unfold F_X1_joined
    rw [if_neg (by decide), if_neg (by decide), if_neg (by decide), if_neg (by decide), if_neg (by decide), if_neg (by decide), if_neg (by decide), if_neg (by decide), if_pos rfl]
  · unfold F_X12_twoOf
    rw [if_neg (by decide), if_neg (by decide), if_neg (by decide), if_neg (by decide), if_neg (by decide), if_neg (by decide), if_neg (by decide), if_neg (by decide)]
  · (repeat' split) <;> exact ⟨_, rfl⟩
theorem two_some (s : Sg) (hs : binS s) (a b : Int64) : F_X1_joined (nI s.cs) a b = F_X12_twoOf (nI s.ms) a b ∧ ∃ x, F_X12_twoOf (nI s.ms) a b = some x := by
  have key : ∀ {c m : Int32} {E : Option Int64}, nI s.cs = c → nI s.ms = m → (F_X1_joined c a b = E ∧ F_X12_twoOf m a b = E ∧ ∃ x, E = some x) → F_X1_joined (nI s.cs) a b = F_X12_twoOf (nI s.ms) a b ∧ ∃ x, F_X12_twoOf (nI s.ms) a b = some x := by
    intro c m E h1 h2 h3
    rw [h1, h2, h3.1, h3.2.1]
    exact ⟨rfl, h3.2.2⟩
  revert hs key
  unfold binS
  revert s
  apply all14
  · exact fun h => absurd h (by decide)
  · exact fun h => absurd h (by decide)
  · exact fun _ key => key rfl rfl (tw_mu a b)
  · exact fun _ key => key rfl rfl (tw_di a b)
  · exact fun _ key => key rfl rfl (tw_pl a b)
  · exact fun _ key => key rfl rfl (tw_mi a b)
  · exact fun _ key => key rfl rfl (tw_lw a b)
  · exact fun _ key => key rfl rfl (tw_gt a b)
  · exact fun _ key => key rfl rfl (tw_eq a b)
  · exact fun _ key => key rfl rfl (tw_an a b)
  · exact fun _ key => key rfl rfl (tw_oo a b)
  · exact fun h => absurd h (by decide)
  · exact fun h => absurd h (by decide)
  · exact fun h => absurd h (by decide)
