/-! PURE LAWS 4: the relation -/
def rowf (st : Nat → Int32) (off wd i : Nat) : Nat → Int32 := fun j => if j < wd then st (off + wd * i + j) else 0
def rT (lim w wd off cnt : Nat) (Q : (Nat → Int32) → Prop) (cells : Nat → Int32) (rows : Int32) (st : Nat → Int32) (n : Nat) : Prop := RN lim rows (st cnt) n ∧ TB w wd off cells st n ∧ ∀ i, i < n → Q (rowf st off wd i)
theorem rowf_eq {st st' : Nat → Int32} {off wd i n : Nat} (hi : i < n) (hs : ∀ k, off ≤ k → k < off + wd * n → st' k = st k) : rowf st' off wd i = rowf st off wd i := by
  funext j
  unfold rowf
  by_cases hj : j < wd
  · have h2 : wd * i + wd ≤ wd * n := by
      have := Nat.mul_le_mul_left wd (show i + 1 ≤ n from hi)
      rw [Nat.mul_add] at this; omega
    rw [if_pos hj, if_pos hj, hs _ (by omega) (by omega)]
  · rw [if_neg hj, if_neg hj]
theorem rT_frame {lim w wd off cnt n : Nat} {Q : (Nat → Int32) → Prop} {cells st st' : Nat → Int32} {rows : Int32} (h : rT lim w wd off cnt Q cells rows st n) (hs : ∀ k, off ≤ k → k < off + wd * lim → st' k = st k) (hc : st' cnt = st cnt) : rT lim w wd off cnt Q cells rows st' n := by
  obtain ⟨⟨h1, h2, h3⟩, h4, h5⟩ := h
  have hlim : wd * n ≤ wd * lim := Nat.mul_le_mul_left wd h1
  have hs' : ∀ k, off ≤ k → k < off + wd * n → st' k = st k := fun k a b => hs k a (by omega)
  exact ⟨⟨h1, h2, by rw [hc]; exact h3⟩, TB_frame h4 hs', fun i hi => by rw [rowf_eq hi hs']; exact h5 i hi⟩
theorem rT_mono {lim w wd off cnt n : Nat} {Q Q' : (Nat → Int32) → Prop} {cells st : Nat → Int32} {rows : Int32} (h : rT lim w wd off cnt Q cells rows st n) (hQ : ∀ f, Q f → Q' f) : rT lim w wd off cnt Q' cells rows st n := ⟨h.1, h.2.1, fun i hi => hQ _ (h.2.2 i hi)⟩
theorem rT_add {lim w wd off cnt n : Nat} {Q : (Nat → Int32) → Prop} {cells cells' st st' : Nat → Int32} {rows : Int32} (h : rT lim w wd off cnt Q cells rows st n) (hn : n < lim) (hwd : wd ≤ w) (hc : ∀ k, k < w * n → cells' k = cells k) (hs : ∀ k, off ≤ k → k < off + wd * n → st' k = st k) (hcnt : st' cnt = nI (n + 1)) (hrow : ∀ j, j < wd → cells' (w * n + j) = st' (off + wd * n + j)) (hq : Q (rowf st' off wd n)) : rT lim w wd off cnt Q cells' (nI (n + 1)) st' (n + 1) := by
  obtain ⟨⟨h1, h2, h3⟩, h4, h5⟩ := h
  refine ⟨⟨hn, rfl, hcnt⟩, TB_add h4 hwd hc hs hrow, fun i hi => ?_⟩
  by_cases hin : i < n
  · rw [rowf_eq hin hs]; exact h5 i hin
  · rw [show i = n by omega]; exact hq
def qDeb (nM : Nat) (f : Nat → Int32) : Prop := ∃ a b s l d : Nat, a < nM ∧ b < nM ∧ a ≠ b ∧ f 0 = nI a ∧ f 1 = nI b ∧ 1 ≤ s ∧ s ≤ 1000000 ∧ f 2 = nI s ∧ l ≤ d ∧ d ≤ 99 ∧ f 3 = nI l ∧ f 4 = nI d ∧ (f 5 = -1 ∨ ∃ o : Nat, 1 ≤ o ∧ o ≤ 1000000 ∧ f 5 = nI o) ∧ (f 6 = -1 ∨ ∃ o : Nat, o ≤ 99 ∧ f 6 = nI o)
def qPay (nD : Nat) (f : Nat → Int32) : Prop := ∃ d s x : Nat, d < nD ∧ s ≤ 99 ∧ 1 ≤ x ∧ x ≤ 1000000 ∧ f 0 = nI d ∧ f 1 = nI s ∧ f 2 = nI x
def sh10 (f : Nat → Nat) : Nat := f 0 + f 1 + f 2 + f 3 + f 4 + f 5 + f 6 + f 7 + f 8 + f 9
def qPur (nM : Nat) (f : Nat → Int32) : Prop := ∃ (m e p : Nat) (sh : Nat → Nat), m < nM ∧ e ≤ 99 ∧ 1 ≤ p ∧ p ≤ 10000 ∧ f 0 = nI m ∧ f 1 = nI e ∧ f 2 = nI p ∧ (∀ j, j < 10 → f (3 + j) = nI (sh j)) ∧ (∀ j, nM ≤ j → sh j = 0) ∧ sh10 sh ≤ 30
def qSto (f : Nat → Int32) : Prop := ∃ a b e : Nat, 1 ≤ a ∧ a ≤ 10000 ∧ 1 ≤ b ∧ b ≤ 10000 ∧ e < b ∧ f 0 = nI a ∧ f 1 = nI b ∧ f 2 = nI e
def qTol (nam : Nat) (f : Nat → Int32) : Prop := ∃ a b k : Nat, a < nam ∧ b < nam ∧ a ≠ b ∧ k ≤ 99 ∧ f 0 = nI a ∧ f 1 = nI b ∧ f 2 = nI k
def qLet (nM : Nat) (f : Nat → Int32) : Prop := ∃ a b s c : Nat, a < nM ∧ b < nM ∧ a ≠ b ∧ s ≤ c ∧ c ≤ 9999 ∧ f 0 = nI a ∧ f 1 = nI b ∧ f 2 = nI s ∧ f 3 = nI c ∧ (f 4 = -1 ∨ ∃ t : Nat, t < 8 ∧ f 4 = nI t)
def qMen (f : Nat → Int32) : Prop := inR (f 0) (-1) 4 ∧ inR (f 1) (-1) 9 ∧ inR (f 2) 0 99
def qLoa (nM : Nat) (f : Nat → Int32) : Prop := ∃ a w c : Nat, a < nM ∧ 1 ≤ w ∧ w ≤ 1000000 ∧ c ≤ 1000000 ∧ f 0 = nI a ∧ f 1 = nI w ∧ f 2 = nI c
def rTex (cells : Nat → Int32) (rows : Int32) (st : Nat → Int32) : Prop := rows = nI 4 ∧ TB 51 51 40 cells st 4 ∧ ∀ t, t < 4 → ∃ k : Nat, k ≤ 50 ∧ st (40 + 51 * t) = nI k
/-- an act: the class's row c, the model's row m; AK: its codes are those that its text reads into -/
def qAct (AK : (Nat → Int32) → (Nat → Int32) → Prop) (c m : Nat → Int32) : Prop := c 0 = m 0 ∧ c 1 = m 1 ∧ inR (m 1) 0 99 ∧ (∃ k : Nat, k ≤ 50 ∧ m 2 = nI k ∧ c 2 = nI k ∧ ∀ j, j < k → c (3 + j) = m (3 + j)) ∧ AK c m
def rAct (AK : (Nat → Int32) → (Nat → Int32) → Prop) (cells : Nat → Int32) (rows : Int32) (st : Nat → Int32) (n : Nat) : Prop := RN 16 rows (st 1) n ∧ ∀ i, i < n → qAct AK (rowf cells 0 104 i) (rowf st 244 53 i)
def rPri (cells : Nat → Int32) (rows : Int32) (st : Nat → Int32) : Prop := rows = nI 1 ∧ ∀ w, w < 3 → cells w = st (13 + w) ∧ ∃ v : Nat, v ≤ 1000 ∧ st (13 + w) = nI v
def rNum (nar nam : Int32) (st : Nat → Int32) (a b : Nat) : Prop := 2 ≤ a ∧ a ≤ 100 ∧ 1 ≤ b ∧ b ≤ 9 ∧ nar = nI a ∧ st 11 = nI a ∧ nam = nI b ∧ st 12 = nI b
def RelN (AK : (Nat → Int32) → (Nat → Int32) → Prop) (tc : Nat → Nat → Int32) (tr : Nat → Int32) (nar nam : Int32) (st : Nat → Int32) (n : Nat → Nat) (a b : Nat) : Prop :=
  rT 10 2 2 20 0 (fun _ => True) (tc 0) (tr 0) st (n 0) ∧ rTex (tc 1) (tr 1) st ∧ rAct AK (tc 2) (tr 2) st (n 1) ∧ rT 40 7 7 1092 2 (qDeb (n 0)) (tc 3) (tr 3) st (n 2) ∧ rT 60 3 3 1372 3 (qPay (n 2)) (tc 4) (tr 4) st (n 3) ∧ rT 3 13 13 1552 4 (qPur (n 0)) (tc 5) (tr 5) st (n 4) ∧ rT 6 1 1 1591 5 (fun _ => True) (tc 6) (tr 6) st (n 5) ∧ rT 12 3 3 1597 6 qSto (tc 7) (tr 7) st (n 6) ∧ rT 40 3 3 1633 7 (qTol b) (tc 8) (tr 8) st (n 7) ∧ rT 30 5 5 1753 8 (qLet (n 0)) (tc 9) (tr 9) st (n 8) ∧ rT 10 3 3 1903 9 qMen (tc 10) (tr 10) st (n 9) ∧ rT 6 3 3 1933 10 (qLoa (n 0)) (tc 11) (tr 11) st (n 10) ∧ rPri (tc 12) (tr 12) st ∧ rNum nar nam st a b
def Rel (AK : (Nat → Int32) → (Nat → Int32) → Prop) (tc : Nat → Nat → Int32) (tr : Nat → Int32) (nar nam : Int32) (st : Nat → Int32) : Prop := ∃ (n : Nat → Nat) (a b : Nat), RelN AK tc tr nar nam st n a b
theorem rTex_frame {cells st st' : Nat → Int32} {rows : Int32} (h : rTex cells rows st) (hs : ∀ k, 40 ≤ k → k < 244 → st' k = st k) : rTex cells rows st' := by
  obtain ⟨h1, h2, h3⟩ := h
  exact ⟨h1, TB_frame h2 (fun k a b => hs k a (by omega)), fun t ht => by rw [hs _ (by omega) (by omega)]; exact h3 t ht⟩
theorem rAct_frame {AK : (Nat → Int32) → (Nat → Int32) → Prop} {cells st st' : Nat → Int32} {rows : Int32} {n : Nat} (h : rAct AK cells rows st n) (hs : ∀ k, 244 ≤ k → k < 1092 → st' k = st k) (hc : st' 1 = st 1) : rAct AK cells rows st' n := by
  obtain ⟨⟨h1, h2, h3⟩, h4⟩ := h
  exact ⟨⟨h1, h2, by rw [hc]; exact h3⟩, fun i hi => by rw [rowf_eq hi (fun k a b => hs k a (by omega))]; exact h4 i hi⟩
theorem rPri_frame {cells st st' : Nat → Int32} {rows : Int32} (h : rPri cells rows st) (hs : ∀ k, 13 ≤ k → k < 16 → st' k = st k) : rPri cells rows st' := ⟨h.1, fun w hw => by rw [hs _ (by omega) (by omega)]; exact h.2 w hw⟩
theorem rNum_frame {nar nam : Int32} {st st' : Nat → Int32} {a b : Nat} (h : rNum nar nam st a b) (h1 : st' 11 = st 11) (h2 : st' 12 = st 12) : rNum nar nam st' a b := by
  unfold rNum; rw [h1, h2]; exact h
/-- a new table of the tables: by place -/
theorem vu_s {α : Type} {f : Nat → α} {k : Nat} {x : α} : va_up f k x k = x := by unfold va_up; rw [if_pos rfl]
theorem vu_n {α : Type} {f : Nat → α} {k j : Nat} {x : α} (h : j ≠ k) : va_up f k x j = f j := by unfold va_up; rw [if_neg h]
