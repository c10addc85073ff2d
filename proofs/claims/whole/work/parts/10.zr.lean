/-! PURE LAWS 33: what follows from what is told of names -/
section ORF
variable {N : Nat} {bef cl : Nat → Nat}
def DC (N : Nat) (bef : Nat → Nat) (s : Nat) : Prop := ∀ b, b < N → s.testBit b = true → sub (bef b) s
def ClI (N : Nat) (bef cl : Nat → Nat) : Prop := (∀ a, a < N → bef a < 2 ^ N ∧ cl a < 2 ^ N) ∧ (∀ a, a < N → sub (bef a) (cl a)) ∧ (∀ a i, a < N → (cl a).testBit i = true → sub (cl i) (cl a)) ∧ (∀ s a, a < N → DC N bef s → sub (bef a) s → sub (cl a) s)
theorem dc_cl (H : ClI N bef cl) {s a : Nat} (ha : a < N) (hd : DC N bef s) : sub (bef a) s ↔ sub (cl a) s := ⟨fun h => H.2.2.2 s a ha hd h, fun h => sub_trans (H.2.1 a ha) h⟩
theorem dc_self (H : ClI N bef cl) {a : Nat} (ha : a < N) : DC N bef (cl a) := fun b hb h => sub_trans (H.2.1 b hb) (H.2.2.1 a b ha h)
theorem dc_0 : DC N bef 0 := fun b _ h => by rw [Nat.zero_testBit] at h; cases h
theorem sumN_pos {f : Nat → Nat} : ∀ {n : Nat}, 0 < sumN f n → ∃ i, i < n ∧ 0 < f i
  | 0, h => absurd h (Nat.lt_irrefl 0)
  | n + 1, h => by
    have h2 : 0 < sumN f n + f n := h
    by_cases e : 0 < f n
    · exact ⟨n, by omega, e⟩
    · obtain ⟨i, i1, i2⟩ := sumN_pos (f := f) (n := n) (by omega)
      exact ⟨i, by omega, i2⟩
theorem clr_sub {s i : Nat} (hs : s < 1024) (hi : i < 10) (h : s.testBit i = true) : sub (s - 2 ^ i) s := sub_iff.mpr (fun j hj => by
  rw [clr_bit hs hi h] at hj
  exact (Bool.and_eq_true_iff.mp hj).1)
theorem clr_in {s i j : Nat} (hs : s < 1024) (hi : i < 10) (h : s.testBit i = true) (hj : s.testBit j = true) (hne : j ≠ i) : (s - 2 ^ i).testBit j = true := by
  rw [clr_bit hs hi h, hj]
  simp [Ne.symm hne]
theorem clr_out {s i j : Nat} (hs : s < 1024) (hi : i < 10) (h : s.testBit i = true) (hj : (s - 2 ^ i).testBit j = true) : s.testBit j = true ∧ j ≠ i := by
  rw [clr_bit hs hi h] at hj
  obtain ⟨h1, h2⟩ := Bool.and_eq_true_iff.mp hj
  exact ⟨h1, fun e => by subst e; simp at h2⟩
theorem set_sub {s i : Nat} (hs : s < 1024) (hi : i < 10) (h : s.testBit i = false) : sub s (s + 2 ^ i) := sub_iff.mpr (fun j hj => by
  rw [set_bit hs hi h, hj]; rfl)
theorem set_out {s i j : Nat} (hs : s < 1024) (hi : i < 10) (h : s.testBit i = false) (hj : (s + 2 ^ i).testBit j = true) : s.testBit j = true ∨ j = i := by
  rw [set_bit hs hi h] at hj
  rcases Bool.or_eq_true_iff.mp hj with z | z
  · exact Or.inl z
  · exact Or.inr (of_decide_eq_true z).symm
theorem dc_set (hN : N ≤ 9) {s a : Nat} (hs : s < 2 ^ N) (ha : a < N) (h : s.testBit a = false) (hd : DC N bef s) (hb : sub (bef a) s) : DC N bef (s + 2 ^ a) := by
  have h10 := lt_10 hN hs
  intro b hbN hbs
  have hss := set_sub h10 (show a < 10 by omega) h
  rcases set_out h10 (show a < 10 by omega) h hbs with z | z
  · exact sub_trans (hd b hbN z) hss
  · subst z; exact sub_trans hb hss
theorem TT_step (hN : N ≤ 9) {s a : Nat} (hs : s < 2 ^ N) (ha : a < N) (h : s.testBit a = true) (hb : sub (bef a) (s - 2 ^ a)) : TT N bef (s - 2 ^ a) ≤ TT N bef s := by
  rw [TT_eq hN hs]
  have := sumN_ge (f := fun a => if s.testBit a = true ∧ sub (bef a) (s - 2 ^ a) then TT N bef (s - 2 ^ a) else 0) ha
  rw [if_pos ⟨h, hb⟩] at this
  omega
theorem OO_step (hN : N ≤ 9) {s a : Nat} (hs : s < 2 ^ N) (ha : a < N) (h : s.testBit a = false) (hb : sub (bef a) s) : OO N bef (s + 2 ^ a) ≤ OO N bef s := by
  rw [OO_eq hN hs]
  have := sumN_ge (f := fun a => if s.testBit a = false ∧ sub (bef a) s then OO N bef (s + 2 ^ a) else 0) ha
  rw [if_pos ⟨h, hb⟩] at this
  omega
theorem TT_inv (hN : N ≤ 9) {s : Nat} (hs : s < 2 ^ N) (h : 0 < TT N bef s) : s = 0 ∨ ∃ a, a < N ∧ s.testBit a = true ∧ sub (bef a) (s - 2 ^ a) ∧ 0 < TT N bef (s - 2 ^ a) := by
  by_cases e : s = 0
  · exact Or.inl e
  · rw [TT_eq hN hs, if_neg e] at h
    obtain ⟨a, a1, a2⟩ := sumN_pos (f := fun a => if s.testBit a = true ∧ sub (bef a) (s - 2 ^ a) then TT N bef (s - 2 ^ a) else 0) (n := N) (by omega)
    by_cases hc : s.testBit a = true ∧ sub (bef a) (s - 2 ^ a)
    · rw [if_pos hc] at a2
      exact Or.inr ⟨a, a1, hc.1, hc.2, a2⟩
    · rw [if_neg hc] at a2
      exact absurd a2 (Nat.lt_irrefl 0)
theorem clr_lt {s a : Nat} (hs : s < 2 ^ N) : s - 2 ^ a < 2 ^ N := Nat.lt_of_le_of_lt (Nat.sub_le _ _) hs
theorem TT_dc (H : ClI N bef cl) (hN : N ≤ 9) : ∀ k s, s < 2 ^ N → pc s ≤ k → 0 < TT N bef s → DC N bef s ∧ ∀ a, s.testBit a = true → (cl a).testBit a = false := by
  intro k
  induction k with
  | zero =>
    intro s hs hp h
    rw [pc_zero (lt_10 hN hs) (by omega)]
    exact ⟨dc_0, fun a ha => by rw [Nat.zero_testBit] at ha; cases ha⟩
  | succ k ih =>
    intro s hs hp h
    rcases TT_inv hN hs h with e | ⟨a, a1, a2, a3, a4⟩
    · subst e
      exact ⟨dc_0, fun a ha => by rw [Nat.zero_testBit] at ha; cases ha⟩
    · have h10 := lt_10 hN hs
      have hpc := pc_clr h10 (show a < 10 by omega) a2
      obtain ⟨d1, d2⟩ := ih (s - 2 ^ a) (clr_lt hs) (by omega) a4
      have hss := clr_sub h10 (show a < 10 by omega) a2
      have hca := (dc_cl H a1 d1).mp a3
      refine ⟨fun b hb hbs => ?_, fun b hbs => ?_⟩
      · by_cases e : b = a
        · subst e; exact sub_trans a3 hss
        · exact sub_trans (d1 b hb (clr_in h10 (show a < 10 by omega) a2 hbs e)) hss
      · by_cases e : b = a
        · subst e
          cases hc : (cl b).testBit b
          · rfl
          · exact absurd rfl (clr_out h10 (show b < 10 by omega) a2 (sub_iff.mp hca b hc)).2
        · exact d2 b (clr_in h10 (show a < 10 by omega) a2 hbs e)
def Acy (N : Nat) (cl : Nat → Nat) : Prop := ∀ a, a < N → (cl a).testBit a = false
theorem cl_lt (H : ClI N bef cl) (hN : N ≤ 9) (hA : Acy N cl) {a b : Nat} (ha : a < N) (hb : b < N) (h : (cl b).testBit a = true) : pc (cl a) < pc (cl b) := pc_lt (H.2.2.1 b a hb h) (show a < 10 by omega) h (hA a ha)
theorem TT_pos (H : ClI N bef cl) (hN : N ≤ 9) (hA : Acy N cl) : ∀ k s, s < 2 ^ N → pc s ≤ k → DC N bef s → 0 < TT N bef s := by
  intro k
  induction k with
  | zero =>
    intro s hs hp hd
    rw [TT_eq hN hs, if_pos (pc_zero (lt_10 hN hs) (by omega))]; omega
  | succ k ih =>
    intro s hs hp hd
    by_cases e : s = 0
    · rw [TT_eq hN hs, if_pos e]; omega
    · obtain ⟨i, i1, i2⟩ := some_bit (n := N) (by omega) hs
      obtain ⟨m, ⟨a, a1, a2, a3⟩, a4⟩ := pk_least (fun m => ∃ a, a < N ∧ s.testBit a = true ∧ 10 - pc (cl a) = m) ⟨_, i, i1, i2, rfl⟩
      have h10 := lt_10 hN hs
      have hmax : ∀ b, b < N → s.testBit b = true → pc (cl b) ≤ pc (cl a) := fun b b1 b2 => by
        have hp1 := pc_N (show N ≤ 10 by omega) (H.1 b b1).2
        have hp2 := pc_N (show N ≤ 10 by omega) (H.1 a a1).2
        by_cases hc : pc (cl b) ≤ pc (cl a)
        · exact hc
        · exact absurd ⟨b, b1, b2, rfl⟩ (a4 (10 - pc (cl b)) (by omega))
      have hba : sub (bef a) (s - 2 ^ a) := sub_iff.mpr (fun c hc => clr_in h10 (show a < 10 by omega) a2 (sub_iff.mp (hd a a1 a2) c hc) (fun z => by
        subst z
        have := sub_iff.mp (H.2.1 c a1) c hc
        rw [hA c a1] at this; cases this))
      have hdc : DC N bef (s - 2 ^ a) := by
        intro b b1 b2
        obtain ⟨b3, b4⟩ := clr_out h10 (show a < 10 by omega) a2 b2
        refine sub_iff.mpr (fun c hc => clr_in h10 (show a < 10 by omega) a2 (sub_iff.mp (hd b b1 b3) c hc) (fun z => ?_))
        subst z
        have h1 := cl_lt H hN hA a1 b1 (sub_iff.mp (H.2.1 b b1) c hc)
        have h2 := hmax b b1 b3
        omega
      have hpc := pc_clr h10 (show a < 10 by omega) a2
      have h1 := ih (s - 2 ^ a) (clr_lt hs) (by omega) hdc
      have h2 := TT_step hN hs a1 a2 hba
      omega
theorem next_ex (H : ClI N bef cl) (hN : N ≤ 9) (hA : Acy N cl) {s : Nat} (hs : s < 2 ^ N) (hp : pc s < N) : ∃ a, a < N ∧ s.testBit a = false ∧ sub (bef a) s := by
  obtain ⟨i, i1, i2⟩ := not_full (show N ≤ 10 by omega) hs hp
  obtain ⟨m, ⟨a, a1, a2, a3⟩, a4⟩ := pk_least (fun m => ∃ a, a < N ∧ s.testBit a = false ∧ pc (cl a) = m) ⟨_, i, i1, i2, rfl⟩
  refine ⟨a, a1, a2, sub_iff.mpr (fun c hc => ?_)⟩
  have hcN : c < N := bit_lt (H.1 a a1).1 hc
  cases hcs : s.testBit c
  · have h1 := cl_lt H hN hA hcN a1 (sub_iff.mp (H.2.1 a a1) c hc)
    exact absurd ⟨c, hcN, hcs, rfl⟩ (a4 (pc (cl c)) (by omega))
  · rfl
theorem OO_pos (H : ClI N bef cl) (hN : N ≤ 9) (hA : Acy N cl) : ∀ k s, s < 2 ^ N → N - pc s ≤ k → DC N bef s → 0 < OO N bef s := by
  intro k
  induction k with
  | zero =>
    intro s hs hp hd
    rw [OO_eq hN hs, if_pos (pc_full (show N ≤ 10 by omega) hs (by have := pc_N (show N ≤ 10 by omega) hs; omega))]; omega
  | succ k ih =>
    intro s hs hp hd
    by_cases e : pc s < N
    · obtain ⟨a, a1, a2, a3⟩ := next_ex H hN hA hs e
      have hpc := pc_set (lt_10 hN hs) (show a < 10 by omega) a2
      have h1 := ih (s + 2 ^ a) (add_lt hN hs a1 a2) (by omega) (dc_set hN hs a1 a2 hd a3)
      have h2 := OO_step hN hs a1 a2 a3
      omega
    · rw [OO_eq hN hs, if_pos (pc_full (show N ≤ 10 by omega) hs (by have := pc_N (show N ≤ 10 by omega) hs; omega))]; omega
theorem OO_down (hN : N ≤ 9) : ∀ k s, s < 2 ^ N → pc s ≤ k → 0 < TT N bef s → 0 < OO N bef s → 0 < OO N bef 0 := by
  intro k
  induction k with
  | zero =>
    intro s hs hp h1 h2
    rw [pc_zero (lt_10 hN hs) (by omega)] at h2; exact h2
  | succ k ih =>
    intro s hs hp h1 h2
    rcases TT_inv hN hs h1 with e | ⟨a, a1, a2, a3, a4⟩
    · rw [e] at h2; exact h2
    · have h10 := lt_10 hN hs
      have hpc := pc_clr h10 (show a < 10 by omega) a2
      have hle := ((B_all h10 (show a < 10 by omega)).2.2.1 a2).2.1
      have hout : (s - 2 ^ a).testBit a = false := by
        cases hc : (s - 2 ^ a).testBit a
        · rfl
        · exact absurd rfl (clr_out h10 (show a < 10 by omega) a2 hc).2
      have h3 := OO_step hN (clr_lt (a := a) hs) a1 hout a3
      rw [Nat.sub_add_cancel hle] at h3
      exact ih (s - 2 ^ a) (clr_lt hs) (by omega) a4 (by omega)
theorem OO_acy (H : ClI N bef cl) (hN : N ≤ 9) : 0 < OO N bef 0 ↔ Acy N cl := by
  have hp : 0 < 2 ^ N := Nat.two_pow_pos N
  constructor
  · intro h a ha
    rw [← both_ends hN] at h
    exact (TT_dc H hN N (2 ^ N - 1) (by omega) (pc_N (show N ≤ 10 by omega) (by omega)) h).2 a (by rw [all_bit]; exact decide_eq_true ha)
  · intro hA
    exact OO_pos H hN hA N 0 hp (by omega) dc_0
/-- counted by what follows it is the same -/
theorem TT_cl (H : ClI N bef cl) (hN : N ≤ 9) : ∀ k s, s < 2 ^ N → pc s ≤ k → TT N cl s = TT N bef s := by
  intro k
  induction k with
  | zero =>
    intro s hs hp
    rw [pc_zero (lt_10 hN hs) (by omega), TT_eq hN (Nat.two_pow_pos N), TT_eq (bef := bef) hN (Nat.two_pow_pos N), sumN_0 (fun i hi => if_neg (by rw [Nat.zero_testBit]; simp)), sumN_0 (fun i hi => if_neg (by rw [Nat.zero_testBit]; simp))]
  | succ k ih =>
    intro s hs hp
    rw [TT_eq hN hs, TT_eq (bef := bef) hN hs]
    congr 1
    refine sumN_congr (fun a ha => ?_)
    by_cases h : s.testBit a = true
    · have hpc := pc_clr (lt_10 hN hs) (show a < 10 by omega) h
      have e := ih (s - 2 ^ a) (clr_lt hs) (by omega)
      by_cases h0 : 0 < TT N bef (s - 2 ^ a)
      · have hd := (TT_dc H hN 10 (s - 2 ^ a) (clr_lt hs) (by have := pc_N (show N ≤ 10 by omega) (clr_lt (N := N) (a := a) hs); omega) h0).1
        by_cases hb : sub (bef a) (s - 2 ^ a)
        · rw [if_pos ⟨h, (dc_cl H ha hd).mp hb⟩, if_pos ⟨h, hb⟩, e]
        · rw [if_neg (fun q => hb ((dc_cl H ha hd).mpr q.2)), if_neg (fun q => hb q.2)]
      · have hz : TT N bef (s - 2 ^ a) = 0 := by omega
        rw [e, hz]
        (repeat' split) <;> rfl
    · rw [if_neg (fun q => h q.1), if_neg (fun q => h q.1)]
end ORF
