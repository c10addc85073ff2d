/-! PURE LAWS 27: rings, the plain law -/
/-- from a to f in just k steps, by those above f -/
def Wk (O : Nat → Nat → Prop) (f : Nat) : Nat → Nat → Prop
  | 0, _ => False
  | 1, a => O a f
  | k + 2, a => ∃ b, f < b ∧ b < 10 ∧ Wk O f (k + 1) b ∧ O a b
theorem Wk_step {O : Nat → Nat → Prop} {f k a b : Nat} (hk : 1 ≤ k) (h1 : f < b) (h2 : b < 10) (h3 : Wk O f k b) (h4 : O a b) : Wk O f (k + 1) a := by
  obtain ⟨j, rfl⟩ : ∃ j, k = j + 1 := ⟨k - 1, by omega⟩
  exact ⟨b, h1, h2, h3, h4⟩
theorem Wk_inv {O : Nat → Nat → Prop} {f k a : Nat} (hk : 1 ≤ k) (h : Wk O f (k + 1) a) : ∃ b, f < b ∧ b < 10 ∧ Wk O f k b ∧ O a b := by
  obtain ⟨j, rfl⟩ : ∃ j, k = j + 1 := ⟨k - 1, by omega⟩
  exact h
theorem Wk_chain {O : Nat → Nat → Prop} {f k : Nat} (hk : 1 ≤ k) (r : Nat → Nat) : ∀ i, (∀ j, 1 ≤ j → j ≤ i → f < r j ∧ r j < 10 ∧ O (r (j - 1)) (r j)) → Wk O f k (r i) → Wk O f (k + i) (r 0)
  | 0, _, h => h
  | i + 1, hc, h => by
    obtain ⟨h1, h2, h3⟩ := hc (i + 1) (by omega) (Nat.le_refl _)
    have h4 : Wk O f (k + 1) (r i) := Wk_step hk h1 h2 h h3
    have := Wk_chain (k := k + 1) (by omega) r i (fun j a b => hc j a (by omega)) h4
    rw [show k + (i + 1) = k + 1 + i by omega]; exact this
/-- at just k steps, and not nearer -/
def Dk (O : Nat → Nat → Prop) (f k a : Nat) : Prop := Wk O f k a ∧ ∀ j, 1 ≤ j → j < k → ¬ Wk O f j a
theorem Dk_of {O : Nat → Nat → Prop} {f k a : Nat} (hk : 1 ≤ k) (h : Wk O f k a) : ∃ j, 1 ≤ j ∧ j ≤ k ∧ Dk O f j a := by
  obtain ⟨j, ⟨h1, h2⟩, h3⟩ := pk_least (fun j => 1 ≤ j ∧ Wk O f j a) ⟨k, hk, h⟩
  refine ⟨j, h1, ?_, h2, fun i a b c => h3 i b ⟨a, c⟩⟩
  by_cases e : j ≤ k
  · exact e
  · exact absurd ⟨hk, h⟩ (h3 k (by omega))
theorem Dk_uniq {O : Nat → Nat → Prop} {f k l a : Nat} (hk : 1 ≤ k) (hl : 1 ≤ l) (h1 : Dk O f k a) (h2 : Dk O f l a) : k = l := by
  rcases Nat.lt_trichotomy k l with h | h | h
  · exact absurd h1.1 (h2.2 k hk h)
  · exact h
  · exact absurd h2.1 (h1.2 l hl h)
/-- who isn't near by t steps is at t + 1, if he owes one at t -/
theorem Dk_next {O : Nat → Nat → Prop} {f t m : Nat} (ht : 1 ≤ t) (hno : ∀ j, 1 ≤ j → j ≤ t → ¬ Wk O f j m) : (∃ b, f < b ∧ b < 10 ∧ Dk O f t b ∧ O m b) ↔ Wk O f (t + 1) m := by
  constructor
  · rintro ⟨b, h1, h2, h3, h4⟩
    exact Wk_step ht h1 h2 h3.1 h4
  · intro h
    obtain ⟨b, h1, h2, h3, h4⟩ := Wk_inv ht h
    refine ⟨b, h1, h2, ⟨h3, fun j a c d => ?_⟩, h4⟩
    exact hno (j + 1) (by omega) (by omega) (Wk_step a h1 h2 d h4)
/-- the fewest in a ring whose least is f -/
def LenF (O : Nat → Nat → Prop) (f n : Nat) : Prop := 2 ≤ n ∧ n ≤ 10 ∧ Wk O f n f ∧ ∀ j, 2 ≤ j → j < n → ¬ Wk O f j f
/-- the first row of a ring of n from f on, up to i -/
def RowI (O : Nat → Nat → Prop) (f n : Nat) (r : Nat → Nat) (m : Nat) : Prop := r 0 = f ∧ ∀ i, 1 ≤ i → i < m → f < r i ∧ r i < 10 ∧ Wk O f (n - i) (r i) ∧ O (r (i - 1)) (r i) ∧ ∀ b, f < b → b < r i → ¬ (Wk O f (n - i) b ∧ O (r (i - 1)) b)
theorem Row_next {O : Nat → Nat → Prop} {f n m : Nat} {r : Nat → Nat} (h1 : 1 ≤ m) (hm : m < n) (hr : RowI O f n r m) (hw : Wk O f n f) : ∃ b, f < b ∧ b < 10 ∧ Wk O f (n - m) b ∧ O (r (m - 1)) b ∧ ∀ c, f < c → c < b → ¬ (Wk O f (n - m) c ∧ O (r (m - 1)) c) := by
  have hw2 : Wk O f (n - m + 1) (r (m - 1)) := by
    by_cases e : m = 1
    · subst e
      rw [hr.1, show n - 1 + 1 = n by omega]; exact hw
    · have := (hr.2 (m - 1) (by omega) (by omega)).2.2.1
      rw [show n - m + 1 = n - (m - 1) by omega]; exact this
  obtain ⟨b, b1, b2, b3, b4⟩ := Wk_inv (by omega) hw2
  obtain ⟨c, ⟨c1, c2, c3, c4⟩, c5⟩ := pk_least (fun b => f < b ∧ b < 10 ∧ Wk O f (n - m) b ∧ O (r (m - 1)) b) ⟨b, b1, b2, b3, b4⟩
  exact ⟨c, c1, c2, c3, c4, fun d d1 d2 d3 => c5 d d2 ⟨d1, by omega, d3.1, d3.2⟩⟩
theorem Row_ex {O : Nat → Nat → Prop} {f n : Nat} (hw : Wk O f n f) : ∀ m, m ≤ n → ∃ r, RowI O f n r m
  | 0, _ => ⟨fun _ => f, rfl, fun i a b => absurd b (Nat.not_lt_zero _)⟩
  | m + 1, hm => by
    obtain ⟨r, hr⟩ := Row_ex hw m (by omega)
    by_cases h0 : m = 0
    · subst h0
      exact ⟨r, hr.1, fun i a b => absurd b (by omega)⟩
    · obtain ⟨b, b1, b2, b3, b4, b5⟩ := Row_next (m := m) (by omega) (by omega) hr hw
      refine ⟨fun i => if i = m then b else r i, ?_, fun i i1 i2 => ?_⟩
      · show (if 0 = m then b else r 0) = f
        rw [if_neg (by omega)]; exact hr.1
      · by_cases e : i = m
        · subst e
          show f < (if i = i then b else r i) ∧ (if i = i then b else r i) < 10 ∧ Wk O f (n - i) (if i = i then b else r i) ∧ O (if i - 1 = i then b else r (i - 1)) (if i = i then b else r i) ∧ ∀ c, f < c → c < (if i = i then b else r i) → ¬ (Wk O f (n - i) c ∧ O (if i - 1 = i then b else r (i - 1)) c)
          rw [if_pos rfl, if_neg (show ¬ i - 1 = i by omega)]
          exact ⟨b1, b2, b3, b4, b5⟩
        · show f < (if i = m then b else r i) ∧ (if i = m then b else r i) < 10 ∧ Wk O f (n - i) (if i = m then b else r i) ∧ O (if i - 1 = m then b else r (i - 1)) (if i = m then b else r i) ∧ ∀ c, f < c → c < (if i = m then b else r i) → ¬ (Wk O f (n - i) c ∧ O (if i - 1 = m then b else r (i - 1)) c)
          rw [if_neg e, if_neg (show ¬ i - 1 = m by omega)]
          exact hr.2 i i1 (by omega)
theorem Row_uniq {O : Nat → Nat → Prop} {f n m : Nat} {r r' : Nat → Nat} (h1 : RowI O f n r m) (h2 : RowI O f n r' m) : ∀ i, i < m → r i = r' i := by
  intro i
  induction i with
  | zero => intro _; rw [h1.1, h2.1]
  | succ i ih =>
    intro hi
    have e := ih (by omega)
    obtain ⟨a1, a2, a3, a4, a5⟩ := h1.2 (i + 1) (by omega) hi
    obtain ⟨b1, b2, b3, b4, b5⟩ := h2.2 (i + 1) (by omega) hi
    rw [Nat.add_sub_cancel] at a4 a5 b4 b5
    rcases Nat.lt_trichotomy (r (i + 1)) (r' (i + 1)) with h | h | h
    · exact absurd ⟨a3, by rw [← e]; exact a4⟩ (b5 _ a1 h)
    · exact h
    · exact absurd ⟨b3, by rw [e]; exact b4⟩ (a5 _ b1 h)
/-- on the fewest, one at n - i steps isn't nearer -/
theorem Row_D {O : Nat → Nat → Prop} {f n i b : Nat} {r : Nat → Nat} (hL : LenF O f n) (hr : RowI O f n r i) (h1 : 1 ≤ i) (hi : i < n) (hb : f < b) (hb2 : b < 10) (hw : Wk O f (n - i) b) (ho : O (r (i - 1)) b) : Dk O f (n - i) b := by
  refine ⟨hw, fun j j1 j2 j3 => ?_⟩
  have hc := Wk_chain (O := O) (f := f) (k := j) j1 (fun k => if k = i then b else r k) i (fun k k1 k2 => ?_) (by show Wk O f j (if i = i then b else r i); rw [if_pos rfl]; exact j3)
  · have hc2 : Wk O f (j + i) (if 0 = i then b else r 0) := hc
    rw [if_neg (by omega), hr.1] at hc2
    exact hL.2.2.2 (j + i) (by omega) (by omega) hc2
  · by_cases e : k = i
    · subst e
      show f < (if k = k then b else r k) ∧ (if k = k then b else r k) < 10 ∧ O (if k - 1 = k then b else r (k - 1)) (if k = k then b else r k)
      rw [if_pos rfl, if_neg (show ¬ k - 1 = k by omega)]
      exact ⟨hb, hb2, ho⟩
    · show f < (if k = i then b else r k) ∧ (if k = i then b else r k) < 10 ∧ O (if k - 1 = i then b else r (k - 1)) (if k = i then b else r k)
      rw [if_neg e, if_neg (show ¬ k - 1 = i by omega)]
      obtain ⟨a1, a2, a3, a4, a5⟩ := hr.2 k k1 (by omega)
      exact ⟨a1, a2, a4⟩
/-- the ring that both find -/
def RingF (O : Nat → Nat → Prop) (n f : Nat) : Prop := 2 ≤ n ∧ n ≤ 10 ∧ f < 10 ∧ Wk O f n f ∧ (∀ f' j, f' < 10 → 2 ≤ j → j < n → ¬ Wk O f' j f') ∧ ∀ f', f' < f → ¬ Wk O f' n f'
theorem RingF_uniq {O : Nat → Nat → Prop} {n f n' f' : Nat} (h1 : RingF O n f) (h2 : RingF O n' f') : n = n' ∧ f = f' := by
  obtain ⟨a1, a2, a3, a4, a5, a6⟩ := h1
  obtain ⟨b1, b2, b3, b4, b5, b6⟩ := h2
  have e : n = n' := by
    rcases Nat.lt_trichotomy n n' with h | h | h
    · exact absurd a4 (b5 f n a3 a1 h)
    · exact h
    · exact absurd b4 (a5 f' n' b3 b1 h)
  subst e
  refine ⟨rfl, ?_⟩
  rcases Nat.lt_trichotomy f f' with h | h | h
  · exact absurd a4 (b6 f h)
  · exact h
  · exact absurd b4 (a6 f' h)
/-- 1 or 0 by a truth -/
def is01 (x : Int32) (P : Prop) : Prop := (x = 1 ∧ P) ∨ (x = 0 ∧ ¬ P)
theorem is01_1 {x : Int32} {P : Prop} (h : is01 x P) (hp : P) : x = 1 := by
  rcases h with z | z
  · exact z.1
  · exact absurd hp z.2
theorem is01_0 {x : Int32} {P : Prop} (h : is01 x P) (hp : ¬ P) : x = 0 := by
  rcases h with z | z
  · exact absurd z.2 hp
  · exact z.1
theorem is01_b {x : Int32} {P : Prop} (h : is01 x P) : x = 0 ∨ x = 1 := by
  rcases h with z | z
  · exact Or.inr z.1
  · exact Or.inl z.1
theorem is01_c {x : Int32} {P Q : Prop} (h : is01 x P) (hq : P ↔ Q) : is01 x Q := by
  rcases h with z | z
  · exact Or.inl ⟨z.1, hq.mp z.2⟩
  · exact Or.inr ⟨z.1, fun q => z.2 (hq.mpr q)⟩
theorem is01_em (P : Prop) : ∃ x : Int32, is01 x P := by
  by_cases h : P
  · exact ⟨1, Or.inl ⟨rfl, h⟩⟩
  · exact ⟨0, Or.inr ⟨rfl, h⟩⟩
