/-! PURE LAWS 47: men, rows and the class's search -/
def rset (r : Nat → Nat) (i c : Nat) : Nat → Nat := fun k => if k = i then c else r k
theorem rset_s {r : Nat → Nat} {i c : Nat} : rset r i c i = c := if_pos rfl
theorem rset_n {r : Nat → Nat} {i c k : Nat} (h : k ≠ i) : rset r i c k = r k := if_neg h
/-- the mention i may stand in the set that c leads -/
def okc (one : Nat → Nat → Bool) (r : Nat → Nat) (i c : Nat) : Prop := c = i ∨ (r c = c ∧ ∀ j, j < i → r j = c → one i j = true)
def okb (one : Nat → Nat → Bool) (r : Nat → Nat) (i c : Nat) : Bool := decide (c = i) || (decide (r c = c) && (List.range i).all fun j => !decide (r j = c) || one i j)
theorem okb_iff {one : Nat → Nat → Bool} {r : Nat → Nat} {i c : Nat} : okb one r i c = true ↔ okc one r i c := by
  unfold okb okc
  rw [Bool.or_eq_true_iff, Bool.and_eq_true_iff, List.all_eq_true, decide_eq_true_iff, decide_eq_true_iff]
  constructor
  · rintro (h | ⟨h1, h2⟩)
    · exact Or.inl h
    · refine Or.inr ⟨h1, fun j hj hr => ?_⟩
      have := h2 j (List.mem_range.mpr hj)
      rw [decide_eq_true hr] at this
      exact this
  · rintro (h | ⟨h1, h2⟩)
    · exact Or.inl h
    · refine Or.inr ⟨h1, fun j hj => ?_⟩
      by_cases e : r j = c
      · rw [h2 j (List.mem_range.mp hj) e, Bool.or_true]
      · rw [decide_eq_false e]; rfl
def kids (F : Nat → List (Nat → Nat)) (i : Nat) : Nat → List (Nat → Nat)
  | 0 => []
  | m + 1 => F (i - m) ++ kids F i m
/-- all rows that go on from r, in their order; d places are left -/
def enm (one : Nat → Nat → Bool) (N : Nat) : Nat → (Nat → Nat) → List (Nat → Nat)
  | 0, r => [r]
  | d + 1, r => kids (fun c => if okb one r (N - (d + 1)) c = true then enm one N d (rset r (N - (d + 1)) c) else []) (N - (d + 1)) (N - (d + 1) + 1)
def kid (one : Nat → Nat → Bool) (N d : Nat) (r : Nat → Nat) (i c : Nat) : List (Nat → Nat) := if okb one r i c = true then enm one N d (rset r i c) else []
theorem enm_s {one : Nat → Nat → Bool} {N d i : Nat} {r : Nat → Nat} (h : i + (d + 1) = N) : enm one N (d + 1) r = kids (kid one N d r i) i (i + 1) := by
  have e : N - (d + 1) = i := by omega
  show kids (fun c => if okb one r (N - (d + 1)) c = true then enm one N d (rset r (N - (d + 1)) c) else []) (N - (d + 1)) (N - (d + 1) + 1) = _
  rw [e]
  rfl
def nwc (x : Nat → Nat) : Nat → Nat → Nat
  | _, 0 => 0
  | i, d + 1 => (if x i = i then 1 else 0) + nwc x (i + 1) d
theorem nwc_s (x : Nat → Nat) (i d : Nat) : nwc x i (d + 1) = (if x i = i then 1 else 0) + nwc x (i + 1) d := rfl
theorem kids_mem {F : Nat → List (Nat → Nat)} {i : Nat} {x : Nat → Nat} : ∀ {m}, x ∈ kids F i m → ∃ c, x ∈ F c
  | 0, h => absurd h List.not_mem_nil
  | m + 1, h => by
    rcases List.mem_append.mp h with h | h
    · exact ⟨_, h⟩
    · exact kids_mem h
theorem enm_low {one : Nat → Nat → Bool} {N : Nat} : ∀ {d i : Nat} {r x : Nat → Nat}, i + d = N → x ∈ enm one N d r → ∀ k, k < i → x k = r k
  | 0, i, r, x, _, h, k, _ => by
    rw [List.mem_singleton.mp h]
  | d + 1, i, r, x, hi, h, k, hk => by
    rw [enm_s hi] at h
    obtain ⟨c, hc⟩ := kids_mem h
    unfold kid at hc
    split at hc
    · rw [enm_low (i := i + 1) (by omega) hc k (by omega), rset_n (by omega)]
    · exact absurd hc List.not_mem_nil
theorem kid_at {one : Nat → Nat → Bool} {N d i c : Nat} {r x : Nat → Nat} (hi : i + 1 + d = N) (h : x ∈ kid one N d r i c) : x i = c := by
  unfold kid at h
  split at h
  · rw [enm_low hi h i (by omega), rset_s]
  · exact absurd h List.not_mem_nil
theorem find_congr {α : Type} {p q : α → Bool} : ∀ {l : List α}, (∀ x, x ∈ l → p x = q x) → l.find? p = l.find? q
  | [], _ => rfl
  | a :: l, h => by
    rw [List.find?_cons, List.find?_cons, h a List.mem_cons_self, find_congr (fun x hx => h x (List.mem_cons_of_mem _ hx))]
/-- the first row with at most o new sets -/
def fits (i d o : Nat) (x : Nat → Nat) : Bool := decide (nwc x i d ≤ o)
theorem fits_lt {one : Nat → Nat → Bool} {N d i c o : Nat} {r : Nat → Nat} (hi : i + 1 + d = N) (hc : c < i) : (kid one N d r i c).find? (fits i (d + 1) o) = (kid one N d r i c).find? (fits (i + 1) d o) := find_congr (fun x hx => by
  have e := kid_at hi hx
  unfold fits
  rw [nwc_s, e, if_neg (by omega), Nat.zero_add])
theorem fits_eq {one : Nat → Nat → Bool} {N d i o : Nat} {r : Nat → Nat} (hi : i + 1 + d = N) : (kid one N d r i i).find? (fits i (d + 1) (o + 1)) = (kid one N d r i i).find? (fits (i + 1) d o) := find_congr (fun x hx => by
  have e := kid_at hi hx
  unfold fits
  rw [nwc_s, e, if_pos rfl]
  exact decide_eq_decide.mpr (by omega))
theorem fits_0 {one : Nat → Nat → Bool} {N d i : Nat} {r : Nat → Nat} (hi : i + 1 + d = N) : (kid one N d r i i).find? (fits i (d + 1) 0) = none := List.find?_eq_none.mpr (fun x hx => by
  have e := kid_at hi hx
  unfold fits
  rw [nwc_s, e, if_pos rfl]
  exact fun z => by have := of_decide_eq_true z; omega)
/-- what stands in the first i places -/
def PV (r : Nat → Nat) (i : Nat) : Prop := ∀ k, k < i → r k ≤ k ∧ r (r k) = r k
theorem PV_s {one : Nat → Nat → Bool} {r : Nat → Nat} {i c : Nat} (h : PV r i) (hc : c ≤ i) (ho : okc one r i c) : PV (rset r i c) (i + 1) := by
  intro k hk
  by_cases e : k = i
  · subst e
    rw [rset_s]
    refine ⟨hc, ?_⟩
    by_cases e2 : c = k
    · subst e2; exact rset_s
    · rw [rset_n e2]
      rcases ho with h1 | h1
      · exact absurd h1 e2
      · exact h1.1
  · obtain ⟨h1, h2⟩ := h k (by omega)
    rw [rset_n e, rset_n (by omega)]
    exact ⟨h1, h2⟩
def MemR (i : Nat) (r : Nat → Nat) (m : Nat → Int32) : Prop := ∃ mb : Nat → Nat, ∀ s, s < 10 → m s = nI (mb s) ∧ mb s < 1024 ∧ ∀ k, (mb s).testBit k = (decide (k < i) && decide (r k = s))
theorem MemR_up {i c : Nat} {r : Nat → Nat} {m : Nat → Int32} (h : MemR i r m) (hi : i < 10) (hc : c < 10) : ∃ v, m c ||| ((1 : Int32) <<< (nI i &&& 31)) = v ∧ MemR (i + 1) (rset r i c) (upd m c v) := by
  obtain ⟨mb, hm⟩ := h
  obtain ⟨h1, h2, h3⟩ := hm c hc
  refine ⟨_, rfl, fun s => if s = c then mb c ||| 2 ^ i else mb s, fun s hs => ?_⟩
  by_cases e : s = c
  · subst e
    dsimp only
    rw [pk_us, if_pos rfl, h1, shl1 (by omega), nI_or]
    refine ⟨rfl, Nat.or_lt_two_pow (n := 10) h2 (Nat.pow_lt_pow_right (by decide) hi), fun k => ?_⟩
    rw [Nat.testBit_or, h3, Nat.testBit_two_pow]
    by_cases ek : k = i
    · subst ek
      rw [rset_s, decide_eq_true (rfl : k = k), decide_eq_true (Nat.lt_succ_self k), decide_eq_true (rfl : s = s), Bool.or_true]
      rfl
    · rw [rset_n ek, decide_eq_false (show ¬ i = k from fun z => ek z.symm), Bool.or_false]
      congr 1
      exact decide_eq_decide.mpr (by omega)
  · obtain ⟨g1, g2, g3⟩ := hm s hs
    dsimp only
    rw [pk_un e, if_neg e]
    refine ⟨g1, g2, fun k => ?_⟩
    rw [g3]
    by_cases ek : k = i
    · subst ek
      rw [rset_s, decide_eq_false (Nat.lt_irrefl k), decide_eq_false (show ¬ c = s from fun z => e z.symm), Bool.and_false]
      rfl
    · rw [rset_n ek]
      congr 1
      exact decide_eq_decide.mpr (by omega)
theorem MemR_dn {i c : Nat} {r : Nat → Nat} {m : Nat → Int32} (h : MemR (i + 1) (rset r i c) m) (hi : i < 10) (hc : c < 10) : MemR i r (upd m c (m c &&& (((1 : Int32) <<< (nI i &&& 31)) ^^^ (-1 : Int32)))) := by
  obtain ⟨mb, hm⟩ := h
  obtain ⟨h1, h2, h3⟩ := hm c hc
  have hb : (mb c).testBit i = true := by
    rw [h3, rset_s, decide_eq_true (Nat.lt_succ_self i), decide_eq_true (rfl : c = c)]; rfl
  refine ⟨fun s => if s = c then mb c - 2 ^ i else mb s, fun s hs => ?_⟩
  by_cases e : s = c
  · subst e
    dsimp only
    rw [pk_us, if_pos rfl, h1, (B_all h2 hi).1, if_pos hb]
    refine ⟨rfl, Nat.lt_of_le_of_lt (Nat.sub_le _ _) h2, fun k => ?_⟩
    rw [clr_bit h2 hi hb, h3]
    by_cases ek : k = i
    · subst ek
      rw [decide_eq_true (rfl : k = k), decide_eq_false (Nat.lt_irrefl k)]
      simp
    · rw [rset_n ek, decide_eq_false (show ¬ i = k from fun z => ek z.symm), Bool.not_false, Bool.and_true]
      congr 1
      exact decide_eq_decide.mpr (by omega)
  · obtain ⟨g1, g2, g3⟩ := hm s hs
    dsimp only
    rw [pk_un e, if_neg e]
    refine ⟨g1, g2, fun k => ?_⟩
    rw [g3]
    by_cases ek : k = i
    · subst ek
      rw [rset_s, decide_eq_false (Nat.lt_irrefl k), decide_eq_false (show ¬ c = s from fun z => e z.symm), Bool.and_false]
      rfl
    · rw [rset_n ek]
      congr 1
      exact decide_eq_decide.mpr (by omega)
def AlkR (one : Nat → Nat → Bool) (N : Nat) (f : Nat → Int32) : Prop := ∃ al : Nat → Nat, ∀ i, i < N → f i = nI (al i) ∧ al i < 1024 ∧ ∀ j, (al i).testBit j = (decide (j < N) && one i j)
theorem C_mayJoin {one : Nat → Nat → Bool} {N i c : Nat} {r : Nat → Nat} {f m : Nat → Int32} (hA : AlkR one N f) (hM : MemR i r m) (hP : PV r i) (hN : N ≤ 10) (hi : i < N) (hc : c < i) : F_X3_mayJoin f m (nI i) (nI c) = some (if okb one r i c = true then 1 else 0) := by
  obtain ⟨al, ha⟩ := hA
  obtain ⟨mb, hm⟩ := hM
  obtain ⟨a1, a2, a3⟩ := ha i hi
  obtain ⟨m1, m2, m3⟩ := hm c (by omega)
  unfold F_X3_mayJoin
  rw [if_neg (nI_pos (by omega)), if_pos (ltR 10 10 rfl (by omega) (by decide)), if_neg (nI_pos (by omega)), if_pos (ltR 10 10 rfl (by omega) (by decide))]
  refine sbind (gI_at (by omega) (by decide)) ?_
  have hbz : ∀ x : Int32, x = 0 ∨ x = 1 → Option.bind (bZ x) (fun t => some t) = some x := by
    rintro x (rfl | rfl) <;> rfl
  rw [m1]
  by_cases h0 : mb c = 0
  · have hn : ¬ okb one r i c = true := by
      rw [okb_iff]
      rintro (e | ⟨e, -⟩)
      · omega
      · have := m3 c
        rw [h0, Nat.zero_testBit, e, decide_eq_true hc, decide_eq_true (rfl : c = c)] at this
        exact absurd this (by decide)
    rw [if_neg hn]
    exact sbind (x := 0) (by rw [h0]; exact if_pos rfl) (hbz 0 (Or.inl rfl))
  · obtain ⟨k, k1, k2⟩ := some_bit (n := 10) (show 0 < mb c by omega) m2
    rw [m3] at k2
    have k3 := Bool.and_eq_true_iff.mp k2
    have k4 := of_decide_eq_true k3.1
    have k5 := of_decide_eq_true k3.2
    have hl : r c = c := by rw [← k5]; exact (hP k k4).2
    refine sbind (x := if okb one r i c = true then 1 else 0) ?_ (hbz _ (by split <;> simp))
    rw [if_neg (neR 0 0 rfl (by omega) (by decide) h0)]
    refine sbind (gI_at (by omega) (by decide)) (sbind (gI_at (by omega) (by decide)) ?_)
    rw [m1, a1]
    have hs : sub (mb c) (al i) ↔ okb one r i c = true := by
      rw [sub_iff, okb_iff]
      constructor
      · intro h
        refine Or.inr ⟨hl, fun j hj hj2 => ?_⟩
        have := h j (by rw [m3, decide_eq_true hj, decide_eq_true hj2]; rfl)
        rw [a3] at this
        exact (Bool.and_eq_true_iff.mp this).2
      · rintro (e | ⟨-, h⟩)
        · omega
        · intro j hj
          rw [m3] at hj
          have h2 := Bool.and_eq_true_iff.mp hj
          have h3 := of_decide_eq_true h2.1
          rw [a3, decide_eq_true (show j < N by omega), h j h3 (of_decide_eq_true h2.2)]
          rfl
    by_cases ho : okb one r i c = true
    · rw [if_pos ((nI_sub (by omega)).mpr (hs.mpr ho)), if_pos ho]
    · rw [if_neg (fun z => ho (hs.mp ((nI_sub (by omega)).mp z))), if_neg ho]
