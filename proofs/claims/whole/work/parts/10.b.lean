/-! PURE LAWS 3: a new row; the relation between the two states -/
theorem C_set_any {len rows wd r c : Nat} {cells : Nat → Int32} {x : Int32} (hr : r < rows) (h1 : rows < 2 ^ 31) (h2 : wd < 2 ^ 31) (hc : c < 2 ^ 31) (hl : rows * wd ≤ len) (h3 : len < 2 ^ 31) : F_X8_set len cells (nI rows) (nI wd) (nI r) (nI c) x = some (if c < wd then upd cells (wd * r + c) x else cells) := by
  by_cases h : c < wd
  · rw [if_pos h]; exact C_set hr h h1 h2 hl h3
  · rw [if_neg h]; exact C_set_out hr (by omega) h1 hc
theorem C_add {len lim n w : Nat} {cells : Nat → Int32} {a b c d e : Int32} (hn : n < lim) (hl : lim * w ≤ len) (h1 : len < 2 ^ 31) (h2 : lim < 2 ^ 31) (hw : 0 < w) (h3 : w < 2 ^ 31) : ∃ cells', F_X8_add len cells (nI lim) (nI n) (nI w) a b c d e = some (nI n, cells', nI (n + 1)) ∧ ∀ k, cells' k = addC cells w n a b c d e k := by
  have hl2 : (n + 1) * w ≤ len := Nat.le_trans (Nat.mul_le_mul_right w hn) hl
  have hs : ∀ (f : Nat → Int32) (j : Nat) (x : Int32), j < 2 ^ 31 → F_X8_set len f (nI (n + 1)) (nI w) (nI n) (nI j) x = some (if j < w then upd f (w * n + j) x else f) := fun f j x hj => C_set_any (Nat.lt_succ_self n) (by omega) h3 hj hl2 h1
  obtain ⟨c5, h5⟩ : ∃ c5, c5 = (if 4 < w then upd (if 3 < w then upd (if 2 < w then upd (if 1 < w then upd (if 0 < w then upd cells (w * n + 0) a else cells) (w * n + 1) b else (if 0 < w then upd cells (w * n + 0) a else cells)) (w * n + 2) c else (if 1 < w then upd (if 0 < w then upd cells (w * n + 0) a else cells) (w * n + 1) b else (if 0 < w then upd cells (w * n + 0) a else cells))) (w * n + 3) d else (if 2 < w then upd (if 1 < w then upd (if 0 < w then upd cells (w * n + 0) a else cells) (w * n + 1) b else (if 0 < w then upd cells (w * n + 0) a else cells)) (w * n + 2) c else (if 1 < w then upd (if 0 < w then upd cells (w * n + 0) a else cells) (w * n + 1) b else (if 0 < w then upd cells (w * n + 0) a else cells)))) (w * n + 4) e else (if 3 < w then upd (if 2 < w then upd (if 1 < w then upd (if 0 < w then upd cells (w * n + 0) a else cells) (w * n + 1) b else (if 0 < w then upd cells (w * n + 0) a else cells)) (w * n + 2) c else (if 1 < w then upd (if 0 < w then upd cells (w * n + 0) a else cells) (w * n + 1) b else (if 0 < w then upd cells (w * n + 0) a else cells))) (w * n + 3) d else (if 2 < w then upd (if 1 < w then upd (if 0 < w then upd cells (w * n + 0) a else cells) (w * n + 1) b else (if 0 < w then upd cells (w * n + 0) a else cells)) (w * n + 2) c else (if 1 < w then upd (if 0 < w then upd cells (w * n + 0) a else cells) (w * n + 1) b else (if 0 < w then upd cells (w * n + 0) a else cells))))) := ⟨_, rfl⟩
  have e5 : ∀ k, c5 k = if w * n ≤ k ∧ k < w * n + w ∧ k < w * n + 5 then (if k = w * n then a else if k = w * n + 1 then b else if k = w * n + 2 then c else if k = w * n + 3 then d else e) else cells k := by
    intro k
    rw [h5]
    by_cases g0 : 0 < w <;> by_cases g1 : 1 < w <;> by_cases g2 : 2 < w <;> by_cases g3 : 3 < w <;> by_cases g4 : 4 < w <;> first | omega | (simp only [g0, g1, g2, g3, g4, if_true, if_false, upd]; (repeat' split) <;> first | rfl | omega)
  obtain ⟨t, ht, hp1, hp2⟩ := itr_fu (f := B_X8_add_68 (nI w) len (nI (n + 1)) (nI n))
    (I := fun s => ∃ i, 5 ≤ i ∧ i < 2 ^ 31 ∧ s.1 = nI i ∧ ∀ k, s.2 k = if w * n + 5 ≤ k ∧ k < w * n + i ∧ k < w * n + w then 0 else c5 k)
    (μ := fun s => w - s.1.toNatClampNeg) (P := fun t => (∃ i, w ≤ i ∧ t.1 = nI i ∧ ∀ k, t.2 k = if w * n + 5 ≤ k ∧ k < w * n + i ∧ k < w * n + w then 0 else c5 k) ∧ True) (s := ((5 : Int32), c5))
    ⟨5, by omega, by decide, rfl, fun k => by rw [if_neg (by omega)]⟩ (by dsimp only; omega) (by
      rintro ⟨s1, s2⟩ ⟨i, q1, q2, q3, q4⟩
      dsimp only at q3 q4
      subst q3
      by_cases hiw : i < w
      · left
        refine ⟨(nI (i + 1), upd s2 (w * n + i) 0), ?_, ⟨i + 1, by omega, by omega, rfl, fun k => ?_⟩, ?_⟩
        · unfold B_X8_add_68
          rw [if_pos (nI_lt hiw h3)]
          refine sbind (hs s2 i 0 q2) ?_
          rw [if_pos hiw, lt_eq, nI_1]
        · dsimp only
          unfold upd
          rw [q4 k]
          (repeat' split) <;> first | rfl | omega
        · dsimp only
          rw [nI_clamp q2, nI_clamp (by omega)]; omega
      · right
        refine ⟨(nI i, s2), ?_, ⟨i, by omega, rfl, q4⟩, trivial⟩
        unfold B_X8_add_68
        rw [if_neg (nI_nlt (by omega) q2)])
  obtain ⟨i, hi1, hi2, hi3⟩ := hp1
  refine ⟨t.2, ?_, fun k => ?_⟩
  · unfold F_X8_add
    refine sbind (x := (0 : Int32)) (by rw [C_full (by omega) h2, if_neg (by omega)]) ?_
    rw [if_pos rfl, lt_eq, nI_1]
    refine sbind (hs _ 0 a (by decide)) (sbind (hs _ 1 b (by decide)) (sbind (hs _ 2 c (by decide)) (sbind (hs _ 3 d (by decide)) (sbind (hs _ 4 e (by decide)) ?_))))
    rw [← h5]
    exact sbind ht rfl
  · rw [hi3 k, e5 k]
    unfold addC
    (repeat' split) <;> first | rfl | omega
theorem addC_old {cells : Nat → Int32} {w n k : Nat} {a b c d e : Int32} (h : k < w * n) : addC cells w n a b c d e k = cells k := by
  unfold addC; rw [if_neg (by omega)]
theorem TB_frame {w wd off n : Nat} {cells st st' : Nat → Int32} (h : TB w wd off cells st n) (hs : ∀ k, off ≤ k → k < off + wd * n → st' k = st k) : TB w wd off cells st' n := by
  intro i j hi hj
  have h2 : wd * i + wd ≤ wd * n := by
    have := Nat.mul_le_mul_left wd (show i + 1 ≤ n from hi)
    rw [Nat.mul_add] at this; omega
  rw [hs _ (by omega) (by omega)]
  exact h i j hi hj
theorem TB_add {w wd off n : Nat} {cells cells' st st' : Nat → Int32} (h : TB w wd off cells st n) (hwd : wd ≤ w) (hc : ∀ k, k < w * n → cells' k = cells k) (hs : ∀ k, off ≤ k → k < off + wd * n → st' k = st k) (hrow : ∀ j, j < wd → cells' (w * n + j) = st' (off + wd * n + j)) : TB w wd off cells' st' (n + 1) := by
  intro i j hi hj
  by_cases hin : i < n
  · have h2 : w * i + w ≤ w * n := by
      have := Nat.mul_le_mul_left w (show i + 1 ≤ n from hin)
      rw [Nat.mul_add] at this; omega
    rw [hc _ (by omega)]
    exact TB_frame h hs i j hin hj
  · rw [show i = n by omega]
    exact hrow j hj
