/-! PURE LAWS 49: men, the fewest sets -/
theorem nwc_le (x : Nat → Nat) : ∀ d i, nwc x i d ≤ d
  | 0, _ => Nat.le_refl _
  | d + 1, i => by
    have := nwc_le x d (i + 1)
    rw [nwc_s]
    split <;> omega
theorem enm_ne {one : Nat → Nat → Bool} {N : Nat} : ∀ {d i : Nat} {r : Nat → Nat}, i + d = N → ∃ x, x ∈ enm one N d r
  | 0, _, r, _ => ⟨r, List.mem_singleton.mpr rfl⟩
  | d + 1, i, r, hi => by
    obtain ⟨x, hx⟩ := enm_ne (one := one) (i := i + 1) (r := rset r i i) (d := d) (N := N) (by omega)
    refine ⟨x, ?_⟩
    have hk : x ∈ kid one N d r i i := by
      unfold kid
      rw [if_pos (okb_iff.mpr (Or.inl rfl))]
      exact hx
    rw [enm_s hi]
    have : ∀ m, 1 ≤ m → x ∈ kids (kid one N d r i) i m := by
      intro m hm
      induction m with
      | zero => omega
      | succ m ih =>
        by_cases h0 : m = 0
        · subst h0; exact List.mem_append_left _ hk
        · exact List.mem_append_right _ (ih (by omega))
    exact this _ (by omega)
/-- the first row with the fewest sets, taken one by one -/
def mup (N : Nat) (o : Option (Nat × (Nat → Nat))) (x : Nat → Nat) : Option (Nat × (Nat → Nat)) := match o with
  | none => some (nwc x 0 N, x)
  | some (b, y) => if nwc x 0 N < b then some (nwc x 0 N, x) else some (b, y)
def FstM (N : Nat) (L : List (Nat → Nat)) (b : Nat) (x : Nat → Nat) : Prop := L.find? (fits 0 N b) = some x ∧ ∀ o, o < b → L.find? (fits 0 N o) = none
theorem find_c {p : (Nat → Nat) → Bool} {x : Nat → Nat} {L : List (Nat → Nat)} : (x :: L).find? p = if p x = true then some x else L.find? p := by
  rw [List.find?_cons]
  cases p x <;> rfl
theorem mup_fold {N : Nat} : ∀ (L : List (Nat → Nat)) (b0 : Nat) (y0 : Nat → Nat), ∃ b x, L.foldl (mup N) (some (b0, y0)) = some (b, x) ∧ ((b = b0 ∧ x = y0 ∧ ∀ o, o < b0 → L.find? (fits 0 N o) = none) ∨ (b < b0 ∧ FstM N L b x))
  | [], b0, y0 => ⟨b0, y0, rfl, Or.inl ⟨rfl, rfl, fun _ _ => rfl⟩⟩
  | z :: L, b0, y0 => by
    rw [List.foldl_cons]
    by_cases h : nwc z 0 N < b0
    · have e : mup N (some (b0, y0)) z = some (nwc z 0 N, z) := if_pos h
      rw [e]
      obtain ⟨b, x, h1, h2⟩ := mup_fold (N := N) L (nwc z 0 N) z
      refine ⟨b, x, h1, Or.inr ?_⟩
      rcases h2 with ⟨rfl, rfl, h3⟩ | ⟨h3, h4, h5⟩
      · refine ⟨h, ?_, fun o ho => ?_⟩
        · exact find_c.trans (if_pos (decide_eq_true (Nat.le_refl _)))
        · rw [find_c, if_neg (fun z => by have := of_decide_eq_true z; omega)]
          exact h3 o ho
      · refine ⟨by omega, ?_, fun o ho => ?_⟩
        · rw [find_c, if_neg (fun z => by have := of_decide_eq_true z; omega)]
          exact h4
        · rw [find_c, if_neg (fun z => by have := of_decide_eq_true z; omega)]
          exact h5 o ho
    · have e : mup N (some (b0, y0)) z = some (b0, y0) := if_neg h
      rw [e]
      obtain ⟨b, x, h1, h2⟩ := mup_fold (N := N) L b0 y0
      refine ⟨b, x, h1, ?_⟩
      rcases h2 with ⟨rfl, rfl, h3⟩ | ⟨h3, h4, h5⟩
      · refine Or.inl ⟨rfl, rfl, fun o ho => ?_⟩
        rw [find_c, if_neg (fun z => by have := of_decide_eq_true z; omega)]
        exact h3 o ho
      · refine Or.inr ⟨h3, ?_, fun o ho => ?_⟩
        · rw [find_c, if_neg (fun z => by have := of_decide_eq_true z; omega)]
          exact h4
        · rw [find_c, if_neg (fun z => by have := of_decide_eq_true z; omega)]
          exact h5 o ho
theorem mup_all {N : Nat} {L : List (Nat → Nat)} (h : ∃ x, x ∈ L) : ∃ b x, L.foldl (mup N) none = some (b, x) ∧ b ≤ N ∧ FstM N L b x := by
  cases L with
  | nil => obtain ⟨x, hx⟩ := h; exact absurd hx List.not_mem_nil
  | cons z L =>
    rw [List.foldl_cons, show mup N none z = some (nwc z 0 N, z) from rfl]
    have hz := nwc_le z N 0
    obtain ⟨b, x, h1, h2⟩ := mup_fold (N := N) L (nwc z 0 N) z
    refine ⟨b, x, h1, ?_⟩
    rcases h2 with ⟨rfl, rfl, h3⟩ | ⟨h3, h4, h5⟩
    · refine ⟨hz, ?_, fun o ho => ?_⟩
      · exact find_c.trans (if_pos (decide_eq_true (Nat.le_refl _)))
      · rw [find_c, if_neg (fun z => by have := of_decide_eq_true z; omega)]
        exact h3 o ho
    · refine ⟨by omega, ?_, fun o ho => ?_⟩
      · rw [find_c, if_neg (fun z => by have := of_decide_eq_true z; omega)]
        exact h4
      · rw [find_c, if_neg (fun z => by have := of_decide_eq_true z; omega)]
        exact h5 o ho
theorem FstM_u {N : Nat} {L : List (Nat → Nat)} {b c : Nat} {x y : Nat → Nat} (h1 : FstM N L b x) (h2 : FstM N L c y) : b = c ∧ x = y := by
  have e : b = c := by
    rcases Nat.lt_trichotomy b c with h | h | h
    · have := h2.2 b h; rw [h1.1] at this; exact absurd this (by simp)
    · exact h
    · have := h1.2 c h; rw [h2.1] at this; exact absurd this (by simp)
  subst e
  exact ⟨rfl, Option.some.inj (h1.1.symm.trans h2.1)⟩
/-! who may be one man -/
def agr (x y : Int32) : Bool := decide (x = -1) || (decide (y = -1) || decide (x = y))
def menV (st : Nat → Int32) (N i k : Nat) : Int32 := if i < N then st (1903 + 3 * i + k) else 0
def near (x y : Nat) : Bool := decide (x ≤ y + 40 ∧ y ≤ x + 40)
def oneM (st : Nat → Int32) (N i j : Nat) : Bool := agr (menV st N i 0) (menV st N j 0) && (agr (menV st N i 1) (menV st N j 1) && near (menV st N i 2).toNatClampNeg (menV st N j 2).toNatClampNeg)
theorem agr_if (x y : Int32) : (if x = (-1 : Int32) then some (1 : Int32) else if y = (-1 : Int32) then some (1 : Int32) else if x = y then some (1 : Int32) else some (0 : Int32)) = some (if agr x y = true then 1 else 0) := by
  unfold agr
  by_cases h1 : x = -1
  · rw [if_pos h1, decide_eq_true h1]; rfl
  · rw [if_neg h1, decide_eq_false h1]
    by_cases h2 : y = -1
    · rw [if_pos h2, decide_eq_true h2]; rfl
    · rw [if_neg h2, decide_eq_false h2]
      by_cases h3 : x = y
      · rw [if_pos h3, decide_eq_true h3]; rfl
      · rw [if_neg h3, decide_eq_false h3]; rfl
theorem dif_i {a b : Nat} (ha : a ≤ 99) (hb : b ≤ 99) : (nI a - nI b).toInt = (a : Int) - b := by
  rw [Int32.toInt_sub, nI_toInt (by omega), nI_toInt (by omega)]
  exact Int.bmod_eq_of_le (by omega) (by omega)
theorem near_C {a b : Nat} (ha : a ≤ 99) (hb : b ≤ 99) : ((40 : Int32) < (if 0 ≤ nI a - nI b then nI a - nI b else 0 - (nI a - nI b))) ↔ ¬ near a b = true := by
  have h := dif_i ha hb
  have h2 : (0 - (nI a - nI b)).toInt = (b : Int) - a := by
    rw [Int32.toInt_sub, h, show (0 : Int32).toInt = 0 from rfl]
    rw [Int.bmod_eq_of_le (by omega) (by omega)]; omega
  unfold near
  rw [decide_eq_true_iff, Int32.lt_iff_toInt_lt, show (40 : Int32).toInt = 40 from rfl]
  by_cases h0 : 0 ≤ nI a - nI b
  · rw [if_pos h0, h]
    rw [Int32.le_iff_toInt_le, h, show (0 : Int32).toInt = 0 from rfl] at h0
    omega
  · rw [if_neg h0, h2]
    rw [Int32.le_iff_toInt_le, h, show (0 : Int32).toInt = 0 from rfl] at h0
    omega
theorem near_M {a b : Nat} (ha : a ≤ 99) (hb : b ≤ 99) : F_X12_in (nI a - nI b).toInt64 (-40) 40 = some (if near a b = true then 1 else 0) := by
  have h := dif_i ha hb
  have hn : near a b = true ↔ inR (nI a - nI b) (-40) 40 := by
    unfold near inR
    rw [decide_eq_true_iff, h]
    omega
  by_cases e : near a b = true
  · rw [if_pos e, M_in_t (a := -40) (b := 40) rfl rfl (hn.mp e)]
  · rw [if_neg e, M_in_f (a := -40) (b := 40) rfl rfl (fun z => e (hn.mpr z))]
