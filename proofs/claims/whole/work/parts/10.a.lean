/-! PURE LAWS: loops, rows of numbers -/
theorem itr_ok {S T : Type} {f : S → Option (S ⊕ T)} (I : S → Prop) (μ : S → Nat) (P : T → Prop)
    (step : ∀ s, I s → (∃ s', f s = some (.inl s') ∧ I s' ∧ μ s' < μ s) ∨ (∃ t, f s = some (.inr t) ∧ P t)) :
    ∀ (n : Nat) (s : S), I s → μ s < n → ∃ t, itr f n s = some t ∧ P t := by
  intro n
  induction n with
  | zero => intro s _ h; exact absurd h (Nat.not_lt_zero _)
  | succ n ih =>
    intro s hI hm
    rcases step s hI with ⟨s', h1, h2, h3⟩ | ⟨t, h1, h2⟩
    · obtain ⟨t, h4, h5⟩ := ih s' h2 (by omega)
      refine ⟨t, ?_, h5⟩
      show Option.bind (f s) _ = some t
      rw [h1]; exact h4
    · refine ⟨t, ?_, h2⟩
      show Option.bind (f s) _ = some t
      rw [h1]; rfl
/-- a loop by FU -/
theorem itr_fu {S T : Type} {f : S → Option (S ⊕ T)} (I : S → Prop) (μ : S → Nat) (P : T → Prop) (s : S) (h0 : I s) (hm : μ s < 1000000000000)
    (step : ∀ s, I s → (∃ s', f s = some (.inl s') ∧ I s' ∧ μ s' < μ s) ∨ (∃ t, f s = some (.inr t) ∧ P t)) : ∃ t, itr f FU s = some t ∧ P t := itr_ok I μ P step FU s h0 hm
/-- one step of a loop -/
theorem itr_in {S T : Type} {f : S → Option (S ⊕ T)} {n : Nat} {s s' : S} (h : f s = some (.inl s')) : itr f (n + 1) s = itr f n s' := by
  show Option.bind (f s) _ = _
  rw [h]; rfl
theorem itr_out {S T : Type} {f : S → Option (S ⊕ T)} {n : Nat} {s : S} {t : T} (h : f s = some (.inr t)) : itr f (n + 1) s = some t := by
  show Option.bind (f s) _ = _
  rw [h]; rfl
/-- a loop that counts: state by number, k more steps -/
theorem itr_cnt {S T : Type} {f : S → Option (S ⊕ T)} (st : Nat → S) (t : T) (k : Nat) (hs : ∀ i, i < k → f (st i) = some (.inl (st (i + 1)))) (hx : f (st k) = some (.inr t)) (hk : k < 1000000000000) : itr f FU (st 0) = some t := by
  have key : ∀ (j i n : Nat), i + j = k → j < n → itr f n (st i) = some t := by
    intro j
    induction j with
    | zero =>
      intro i n h1 h2
      cases n with
      | zero => omega
      | succ n => rw [show i = k by omega]; exact itr_out hx
    | succ j ih =>
      intro i n h1 h2
      cases n with
      | zero => omega
      | succ n => rw [itr_in (hs i (by omega))]; exact ih (i + 1) n (by omega) (by omega)
  exact key k 0 FU (by omega) hk
theorem sbind {α β : Type} {a : Option α} {K : α → Option β} {x : α} {r : Option β} (h : a = some x) (hk : K x = r) : Option.bind a K = r := by rw [h]; exact hk
theorem gI_at {f : Nat → Int32} {n k : Nat} (h : k < n) (hn : n < 2 ^ 31) : gI f n (nI k) = some (f k) := by
  unfold gI
  rw [nI_toInt (by omega), if_pos ⟨by omega, by omega⟩, nI_clamp (by omega)]
theorem gL_at {f : Nat → Int64} {n k : Nat} (h : k < n) (hn : n < 2 ^ 31) : gL f n (nI k) = some (f k) := by
  unfold gL
  rw [nI_toInt (by omega), if_pos ⟨by omega, by omega⟩, nI_clamp (by omega)]
theorem sI_at {f : Nat → Int32} {n k : Nat} {x : Int32} (h : k < n) (hn : n < 2 ^ 31) : sI f n (nI k) x = some (upd f k x) := by
  unfold sI
  rw [nI_toInt (by omega), if_pos ⟨by omega, by omega⟩, nI_clamp (by omega)]
theorem sL_at {f : Nat → Int64} {n k : Nat} {x : Int64} (h : k < n) (hn : n < 2 ^ 31) : sL f n (nI k) x = some (vp_updL f k x) := by
  unfold sL
  rw [nI_toInt (by omega), if_pos ⟨by omega, by omega⟩, nI_clamp (by omega)]
theorem sZ_at {f : Nat → Int32} {n k : Nat} {x : Int32} (hx : x = 0 ∨ x = 1) (h : k < n) (hn : n < 2 ^ 31) : sZ f n (nI k) x = some (upd f k x) := by
  unfold sZ
  rw [nI_toInt (by omega), if_pos ⟨by omega, by omega⟩, nI_clamp (by omega)]
  rcases hx with rfl | rfl <;> rfl
/-! PURE LAWS 2: numbers, the first small methods -/
def inR (x : Int32) (a b : Int) : Prop := a ≤ x.toInt ∧ x.toInt ≤ b
theorem inR_dec (x : Int32) (a b : Int) : inR x a b ∨ ¬ inR x a b := Classical.em _
theorem inR_nat {x : Int32} {b : Nat} (h : inR x 0 b) : ∃ k : Nat, k ≤ b ∧ k < 2 ^ 31 ∧ x = nI k := by
  have h2 := Int32.toInt_lt x
  refine ⟨x.toInt.toNat, by have := h.1; have := h.2; omega, by have := h.1; omega, ?_⟩
  rw [← Int32.toInt_inj, nI_toInt (by have := h.1; omega)]
  have := h.1
  omega
theorem inR_natA {x : Int32} {a b : Nat} (h : inR x a b) : ∃ k : Nat, a ≤ k ∧ k ≤ b ∧ k < 2 ^ 31 ∧ x = nI k := by
  obtain ⟨k, h1, h2, h3⟩ := inR_nat (x := x) (b := b) ⟨by have := h.1; omega, h.2⟩
  refine ⟨k, ?_, h1, h2, h3⟩
  have := h.1
  rw [h3, nI_toInt h2] at this
  omega
theorem nI_inR {k : Nat} {a b : Int} (hk : k < 2 ^ 31) (h1 : a ≤ k) (h2 : (k : Int) ≤ b) : inR (nI k) a b := by
  unfold inR; rw [nI_toInt hk]; exact ⟨h1, h2⟩
theorem bZ_0 : bZ 0 = some 0 := by unfold bZ; rw [if_pos (Or.inl rfl)]
theorem bZ_1 : bZ 1 = some 1 := by unfold bZ; rw [if_pos (Or.inr rfl)]
theorem M_in (p q r : Int64) : F_X12_in p q r = some (if q.toInt ≤ p.toInt ∧ p.toInt ≤ r.toInt then 1 else 0) := by
  unfold F_X12_in
  by_cases h1 : p < q
  · rw [if_pos h1, if_neg (by rw [Int64.lt_iff_toInt_lt] at h1; omega)]
    exact sbind rfl (sbind bZ_0 rfl)
  · rw [if_neg h1]
    by_cases h2 : r < p
    · rw [if_pos h2, if_neg (by rw [Int64.lt_iff_toInt_lt] at h2; omega)]
      exact sbind rfl (sbind bZ_0 rfl)
    · rw [if_neg h2, if_pos (by rw [Int64.lt_iff_toInt_lt] at h1 h2; omega)]
      exact sbind rfl (sbind bZ_1 rfl)
theorem M_in_t {p : Int32} {q r : Int64} {a b : Int} (hq : q.toInt = a) (hr : r.toInt = b) (h : inR p a b) : F_X12_in p.toInt64 q r = some 1 := by
  rw [M_in, if_pos]
  rw [Int32.toInt_toInt64, hq, hr]; exact h
theorem M_in_f {p : Int32} {q r : Int64} {a b : Int} (hq : q.toInt = a) (hr : r.toInt = b) (h : ¬ inR p a b) : F_X12_in p.toInt64 q r = some 0 := by
  rw [M_in, if_neg]
  rw [Int32.toInt_toInt64, hq, hr]; exact h
theorem C_out (p q r : Int32) : F_X11_isOut p q r = some (if q.toInt ≤ p.toInt ∧ p.toInt ≤ r.toInt then 0 else 1) := by
  unfold F_X11_isOut
  by_cases h1 : p < q
  · rw [if_pos h1, if_neg (by rw [Int32.lt_iff_toInt_lt] at h1; omega)]
    exact sbind rfl (sbind bZ_1 rfl)
  · rw [if_neg h1]
    by_cases h2 : r < p
    · rw [if_pos h2, if_neg (by rw [Int32.lt_iff_toInt_lt] at h2; omega)]
      exact sbind rfl (sbind bZ_1 rfl)
    · rw [if_neg h2, if_pos (by rw [Int32.lt_iff_toInt_lt] at h1 h2; omega)]
      exact sbind rfl (sbind bZ_0 rfl)
theorem C_out_t {p q r : Int32} {a b : Int} (hq : q.toInt = a) (hr : r.toInt = b) (h : inR p a b) : F_X11_isOut p q r = some 0 := by
  rw [C_out, if_pos]; rw [hq, hr]; exact h
theorem C_out_f {p q r : Int32} {a b : Int} (hq : q.toInt = a) (hr : r.toInt = b) (h : ¬ inR p a b) : F_X11_isOut p q r = some 1 := by
  rw [C_out, if_neg]; rw [hq, hr]; exact h
theorem nI_m1 {n : Nat} (h : n < 2 ^ 31) : (nI n - 1).toInt = (n : Int) - 1 := by
  rw [show (1 : Int32) = nI 1 from rfl, Int32.toInt_sub, nI_toInt h, nI_toInt (by decide)]
  rw [Int.bmod_def]
  split <;> omega
/-! rows of numbers, alike on both sides -/
def TB (w wd off : Nat) (cells st : Nat → Int32) (n : Nat) : Prop := ∀ i j, i < n → j < wd → cells (w * i + j) = st (off + wd * i + j)
def RN (lim : Nat) (rows cnt : Int32) (n : Nat) : Prop := n ≤ lim ∧ rows = nI n ∧ cnt = nI n
/-- a new row: these first, 0 behind -/
def addC (cells : Nat → Int32) (w n : Nat) (a b c d e : Int32) : Nat → Int32 := fun k => if w * n ≤ k ∧ k < w * n + w then (if k = w * n then a else if k = w * n + 1 then b else if k = w * n + 2 then c else if k = w * n + 3 then d else if k = w * n + 4 then e else 0) else cells k
theorem C_place {rows wd r c : Nat} (hr : r < rows) (hc : c < wd) (h1 : rows < 2 ^ 31) (h2 : wd < 2 ^ 31) : F_X8_placeOf (nI rows) (nI wd) (nI r) (nI c) = some (nI (r * wd + c)) := by
  unfold F_X8_placeOf
  rw [if_neg (by have := nI_pos (n := r) (by omega); exact this), if_pos (nI_lt hr h1), if_neg (nI_pos (by omega)), if_pos (nI_lt hc h2)]
  refine sbind rfl ?_
  rw [if_neg (by decide)]
  refine sbind rfl ?_
  rw [pk_mul, nI_add]
theorem C_get {len rows wd r c : Nat} {cells : Nat → Int32} (hr : r < rows) (hc : c < wd) (h1 : rows < 2 ^ 31) (h2 : wd < 2 ^ 31) (hl : rows * wd ≤ len) (h3 : len < 2 ^ 31) : F_X8_get len cells (nI rows) (nI wd) (nI r) (nI c) = some (cells (wd * r + c)) := by
  have hlt : r * wd + c < len := by
    have : r * wd + wd ≤ rows * wd := by
      have := Nat.mul_le_mul_right wd (show r + 1 ≤ rows from hr)
      rw [Nat.add_mul] at this; omega
    omega
  unfold F_X8_get
  refine sbind (C_place hr hc h1 h2) ?_
  rw [if_neg (nI_pos (by omega)), if_pos (show nI (r * wd + c) < Int32.ofNat len from nI_lt hlt h3)]
  refine sbind (x := cells (wd * r + c)) ?_ rfl
  refine sbind (gI_at hlt h3) ?_
  rw [Nat.mul_comm]
theorem C_set {len rows wd r c : Nat} {cells : Nat → Int32} {x : Int32} (hr : r < rows) (hc : c < wd) (h1 : rows < 2 ^ 31) (h2 : wd < 2 ^ 31) (hl : rows * wd ≤ len) (h3 : len < 2 ^ 31) : F_X8_set len cells (nI rows) (nI wd) (nI r) (nI c) x = some (upd cells (wd * r + c) x) := by
  have hlt : r * wd + c < len := by
    have : r * wd + wd ≤ rows * wd := by
      have := Nat.mul_le_mul_right wd (show r + 1 ≤ rows from hr)
      rw [Nat.add_mul] at this; omega
    omega
  unfold F_X8_set
  refine sbind (C_place hr hc h1 h2) ?_
  rw [if_neg (nI_pos (by omega)), if_pos (show nI (r * wd + c) < Int32.ofNat len from nI_lt hlt h3)]
  refine sbind (x := upd cells (wd * r + c) x) ?_ rfl
  refine sbind (sI_at hlt h3) ?_
  rw [Nat.mul_comm]
/-- a set at a column that the table doesn't have changes nothing -/
theorem C_set_out {len rows wd r c : Nat} {cells : Nat → Int32} {x : Int32} (hr : r < rows) (hc : wd ≤ c) (h1 : rows < 2 ^ 31) (h2 : c < 2 ^ 31) : F_X8_set len cells (nI rows) (nI wd) (nI r) (nI c) x = some cells := by
  unfold F_X8_set
  refine sbind (x := (-1 : Int32)) ?_ ?_
  · unfold F_X8_placeOf
    rw [if_neg (nI_pos (by omega)), if_pos (nI_lt hr h1), if_neg (nI_pos (by omega)), if_neg (nI_nlt hc h2)]
    exact sbind rfl (by rw [if_pos rfl]; exact sbind rfl rfl)
  · rw [if_pos (by decide)]
    exact sbind rfl rfl
theorem C_full {lim rows : Nat} (h1 : rows < 2 ^ 31) (h2 : lim < 2 ^ 31) : F_X8_isFull (nI lim) (nI rows) = some (if lim ≤ rows then 1 else 0) := by
  unfold F_X8_isFull
  by_cases h : lim ≤ rows
  · rw [if_pos h]
    first
      | (rw [if_neg (nI_nlt h h1)]; exact sbind rfl (sbind bZ_1 rfl))
      | (rw [if_pos (nI_le h h1)]; exact sbind rfl (sbind bZ_1 rfl))
  · rw [if_neg h]
    first
      | (rw [if_pos (nI_lt (by omega) h2)]; exact sbind rfl (sbind bZ_0 rfl))
      | (rw [if_neg (nI_ge (by omega) h2)]; exact sbind rfl (sbind bZ_0 rfl))
