/-! PURE LAWS 14: a text is read alike; its codes are worked alike -/
theorem READ {tx : Nat → Int32} {n N p : Nat} {cells : Nat → Int32} {rows wd t : Int32} {st : Nat → Int32} (H : RdH tx n N cells rows wd t st (nI p)) (hg : F_X8_get N cells rows wd t 0 = some (nI n)) (hs : gI st 1951 (nI p) = some (nI n))
    (codes : Nat → Int32) (count digits fault fd nb op du : Int32) (waiting : Nat → Int32) (wts : Int32) (step : Nat → Int32) (steps mw : Int32) (waits wth : Nat → Int32) :
    Two (F_X7_read N cells rows wd codes count digits fault fd nb op du waiting wts t) (F_X12_reads st step steps mw waits wth (nI p)) (fun o1 o2 => o1.1 = o2.1 ∧ (o1.1 = -1 → ∃ k : Nat, k ≤ n ∧ o1.2.2.1 = nI k ∧ o2.2.2.1 = nI k ∧ KD o1.2.1 o2.2.1 o2.2.2.2.2.2 k 1)) := by
  have h50 := H.1
  have hX : RdX tx n 0 codes 0 0 nb 0 1 waiting 0 0 0 step 0 0 waits wth :=
    ⟨fun _ => Sg.op, 0, 0, 0, codes, ⟨rfl, rfl, by omega, rfl, rfl, by omega, fun k hk => absurd hk (by omega), fun k hk => absurd hk (by omega), rfl⟩, Or.inl ⟨rfl, rfl, rfl, rfl, rfl, fun k hk => absurd hk (by omega), rfl⟩⟩
  obtain ⟨tC, tM, e1, e2, e3⟩ := RdAll H n 0 (by omega) codes 0 0 fd nb 0 1 waiting 0 0 0 step 0 0 waits wth hX
  have f1 := e1 FU (by unfold FU; omega)
  have f2 := e2 FU (by unfold FU; omega)
  unfold F_X7_read F_X12_reads
  refine two_l hg (two_r hs (two_l f1 (two_r f2 ?_)))
  rcases e3 with ⟨x, hx, hf, z, rfl, hz⟩ | ⟨hf, y, rfl, hY⟩
  · refine two_l (x := (tC.2.1, tC.2.2.1, tC.2.2.2.1, tC.2.2.2.2.1, tC.2.2.2.2.2.2.2.2.2.2)) (by rw [if_neg (by rw [hf]; exact hx)]) ?_
    refine ⟨_, z, rfl, rfl, ?_, fun e => absurd e ?_⟩
    · dsimp only; rw [hf, hz]
    · dsimp only; rw [hf]; exact hx
  · obtain ⟨g, c, h, o, f, ⟨x1, x2, x3, x4, x5, x6, x7, x8, x9⟩, hC⟩ := hY
    rcases hC with ⟨y1, y2, y3, y4, y5, y6, y7⟩ | ⟨y1, y2, y3, q, y4, y5, y6, y7, y8, y9⟩
    · have hrel := C_release (f := f) (c := c) (r := 1) x8 (by omega) (by omega) (by omega)
      have hend : F_X7_end tC.2.1 tC.2.2.1 tC.2.2.2.1 tC.2.2.2.2.1 tC.2.2.2.2.2.2.1 tC.2.2.2.2.2.2.2.2.1 tC.2.2.2.2.2.2.2.2.2.1 tC.2.2.2.2.2.2.2.2.2.2 (nI n) = some (_, _, _, 10 * nI n + 1, _) := by
        unfold F_X7_end
        refine sbind x9 ?_
        rw [x5]
        refine sbind hrel ?_
        rw [y1]
        rfl
      refine two_l (by rw [if_pos hf]; exact sbind hend rfl) ?_
      refine ⟨_, (10 * nI n + 1, _), rfl, ?_, rfl, fun e => absurd e (flt1 (by omega))⟩
      rw [show sm (Sum.inl y) _ _ = _ from rfl]
      refine sbind (by rw [if_pos y2]) rfl
    · obtain ⟨f2', step2, wth2, u, u1, u2, u3, u4, u5, u6, u7⟩ := CLO (q6 := q) x8 y4 y7 y8 y9 x7 (by omega)
      have hend : F_X7_end tC.2.1 tC.2.2.1 tC.2.2.2.1 tC.2.2.2.2.1 tC.2.2.2.2.2.2.1 tC.2.2.2.2.2.2.2.2.1 tC.2.2.2.2.2.2.2.2.2.1 tC.2.2.2.2.2.2.2.2.2.2 (nI n) = some (f2', nI (c + (h - u)), 0, if u = 0 then -1 else 10 * nI n + 1, nI u) := by
        unfold F_X7_end
        refine sbind x9 ?_
        rw [x5]
        refine sbind u3 ?_
        refine sbind (x := if u = 0 then -1 else 10 * nI n + 1) ?_ rfl
        rw [if_pos y1]
        by_cases hu : u = 0
        · rw [if_pos hu, hu, if_neg (by decide), hf]
        · rw [if_neg hu, if_pos (ltL 0 0 rfl (by omega) (by omega))]; rfl
      refine two_l (by rw [if_pos hf]; exact sbind hend rfl) ?_
      rw [show sm (Sum.inl y) _ _ = _ from rfl, y2, if_neg (by decide), y5, y6]
      by_cases hu : u = 0
      · subst hu
        refine ⟨_, (-1, step2, nI (c + (h - 0)), nI 0, _, wth2), rfl, sbind (sbind u4 (by rw [if_pos rfl, if_pos rfl])) rfl, rfl, fun _ => ⟨c + (h - 0), by omega, rfl, rfl, u5⟩⟩
      · refine ⟨_, (10 * nI n + 1, step2, nI (c + (h - u)), nI u, _, wth2), rfl, sbind (sbind u4 (by rw [if_neg hu, if_neg (ms_inj _).2.2.1])) rfl, ?_, fun e => absurd e ?_⟩
        · dsimp only; rw [if_neg hu]
        · dsimp only; rw [if_neg hu]; exact flt1 (by omega)
theorem KD_dp {f step wth : Nat → Int32} : ∀ {c d : Nat}, KD f step wth c d → ∃ dp : Nat → Nat, dp 0 = 0 ∧ dp c = d ∧ ∀ k, k < c → CK f step wth k (dp k) (dp (k + 1))
  | 0, d, h => ⟨fun _ => 0, rfl, h.symm, fun k hk => absurd hk (Nat.not_lt_zero _)⟩
  | c + 1, d, ⟨d0, h1, h2⟩ => by
    obtain ⟨dp, a, b, e⟩ := KD_dp h1
    refine ⟨fun k => if k ≤ c then dp k else d, ?_, ?_, fun k hk => ?_⟩
    · show (if 0 ≤ c then dp 0 else d) = 0
      rw [if_pos (by omega), a]
    · show (if c + 1 ≤ c then dp (c + 1) else d) = d
      rw [if_neg (by omega)]
    · show CK f step wth k (if k ≤ c then dp k else d) (if k + 1 ≤ c then dp (k + 1) else d)
      rw [if_pos (by omega)]
      by_cases hkc : k < c
      · rw [if_pos (by omega)]; exact e k hkc
      · rw [if_neg (by omega), show k = c by omega, b]; exact h2
theorem CK_up {f step wth : Nat → Int32} {k d d' : Nat} (h : CK f step wth k d d') : d' ≤ d + 1 := by
  rcases h with ⟨v, _, _, _, _, h⟩ | ⟨v, _, _, _, _, h⟩ | ⟨s, _, _, _, _, _, h⟩ <;> omega
theorem C_pop {d : Nat} {sk : Nat → Int64} (h : 0 < d) (h2 : d ≤ 50) : F_X1_pop (nI d) sk = some (sk (d - 1), nI (d - 1)) := by
  unfold F_X1_pop
  rw [if_pos (ltL 0 0 rfl h (by omega)), if_neg (nltL 50 50 rfl h2 (by decide)), lt_eq, show (1 : Int32) = nI 1 from rfl, pk_sub h]
  exact sbind (gL_at (by omega) (by decide)) rfl
theorem C_psh {d : Nat} {sk : Nat → Int64} {x : Int64} (h : d < 50) : F_X1_push (nI d) sk x = some (nI (d + 1), vp_updL sk d x) := by
  unfold F_X1_push
  refine sbind (x := (nI (d + 1), vp_updL sk d x)) ?_ rfl
  rw [if_neg (nI_pos (by omega)), if_pos (ltR 50 50 rfl h (by decide))]
  refine sbind (sL_at h (by decide)) ?_
  rw [lt_eq, nI_1]
theorem two_some (s : Sg) (hs : binS s) (a b : Int64) : F_X1_joined (nI s.cs) a b = F_X12_twoOf (nI s.ms) a b ∧ ∃ x, F_X12_twoOf (nI s.ms) a b = some x := by
  revert hs
  unfold binS
  revert s
  apply all14
  · exact fun h => absurd h (by decide)
  · exact fun h => absurd h (by decide)
  · exact fun _ => ⟨rfl, _, rfl⟩
  · refine fun _ => ⟨rfl, ?_⟩
    show ∃ x, Option.bind (if b = (0 : Int64) then some (0 : Int64) else Option.bind (qL a b) fun t => some t) (fun j => some j) = some x
    by_cases h : b = 0
    · rw [if_pos h]; exact ⟨_, rfl⟩
    · rw [if_neg h]; unfold qL; rw [if_neg h]; exact ⟨_, rfl⟩
  · exact fun _ => ⟨rfl, _, rfl⟩
  · exact fun _ => ⟨rfl, _, rfl⟩
  · refine fun _ => ⟨rfl, ?_⟩
    show ∃ x, Option.bind (if a < b then some (1 : Int64) else some 0) (fun j => some j) = some x
    split <;> exact ⟨_, rfl⟩
  · refine fun _ => ⟨rfl, ?_⟩
    show ∃ x, Option.bind (if b < a then some (1 : Int64) else some 0) (fun j => some j) = some x
    split <;> exact ⟨_, rfl⟩
  · refine fun _ => ⟨rfl, ?_⟩
    show ∃ x, Option.bind (if a = b then some (1 : Int64) else some 0) (fun j => some j) = some x
    split <;> exact ⟨_, rfl⟩
  · refine fun _ => ⟨rfl, ?_⟩
    show ∃ x, Option.bind (if a = 0 then some (0 : Int64) else if b = 0 then some 0 else some 1) (fun j => some j) = some x
    split
    · exact ⟨_, rfl⟩
    · split <;> exact ⟨_, rfl⟩
  · refine fun _ => ⟨rfl, ?_⟩
    show ∃ x, Option.bind (if a = 0 then (if b = 0 then some (0 : Int64) else some 1) else some 1) (fun j => some j) = some x
    split
    · split <;> exact ⟨_, rfl⟩
    · exact ⟨_, rfl⟩
  · exact fun h => absurd h (by decide)
  · exact fun h => absurd h (by decide)
  · exact fun h => absurd h (by decide)
