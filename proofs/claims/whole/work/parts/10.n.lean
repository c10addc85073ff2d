def sumN (f : Nat → Nat) : Nat → Nat
  | 0 => 0
  | n + 1 => sumN f n + f n
theorem sumN_10 (f : Nat → Nat) : sumN f 10 = sh10 f := by simp only [sumN, sh10]; omega
theorem sumN_zero {f : Nat → Nat} {m : Nat} (h : ∀ j, m ≤ j → f j = 0) : ∀ k, sumN f (m + k) = sumN f m
  | 0 => rfl
  | k + 1 => by show sumN f (m + k) + f (m + k) = _; rw [h _ (by omega), sumN_zero h k]; rfl
theorem sumN_mono (f : Nat → Nat) : ∀ {i n : Nat}, i ≤ n → sumN f i ≤ sumN f n := by
  intro i n h
  obtain ⟨k, rfl⟩ := Nat.exists_eq_add_of_le h
  induction k with
  | zero => exact Nat.le_refl _
  | succ k ih => exact Nat.le_trans (ih (by omega)) (Nat.le_add_right _ _)
theorem M_purseOf {st : Nat → Int32} {p j : Nat} (h : 1552 + 13 * p + j < 1951) : F_X12_purseOf st (nI p) (nI j) = some (st (1552 + 13 * p + j)) := by
  unfold F_X12_purseOf
  rw [show (1552 : Int32) = nI 1552 from rfl, show (13 : Int32) = nI 13 from rfl, pk_mul, nI_add, nI_add]
  exact sbind (M_at h) rfl
theorem M_shares {st : Nat → Int32} {p : Nat} {sh : Nat → Nat} (hp : p < 3) (h : ∀ j, j < 10 → st (1552 + 13 * p + (3 + j)) = nI (sh j)) : F_X12_shares st (nI p) = some (nI (sumN sh 10)) := by
  unfold F_X12_shares
  refine sbind (itr_cnt (fun i => (nI (sumN sh i), nI i)) (nI (sumN sh 10), nI 10) 10 (fun i hi => ?_) ?_ (by omega)) rfl
  · unfold B_X12_shares_4
    dsimp only
    rw [show (10 : Int32) = nI 10 from rfl, if_pos (nI_lt hi (by decide)), show (3 : Int32) = nI 3 from rfl, nI_add]
    refine sbind (M_purseOf (by omega)) ?_
    rw [h i hi, lt_eq, lt_eq, nI_add, show (1 : Int32) = nI 1 from rfl, nI_add]
    rfl
  · unfold B_X12_shares_4
    dsimp only
    rw [show (10 : Int32) = nI 10 from rfl, if_neg (nI_nlt (a := 10) (b := 10) (by omega) (by decide))]
theorem C_shares {cells : Nat → Int32} {p nP nM : Nat} {sh : Nat → Nat} (hp : p < nP) (hP : nP ≤ 3) (hM : nM ≤ 10) (h : ∀ j, j < nM → cells (13 * p + (3 + j)) = nI (sh j)) : F_X2_sharesOfAll (nI nM) cells (nI nP) (nI p) = some (nI (sumN sh nM)) := by
  unfold F_X2_sharesOfAll
  refine sbind (itr_cnt (fun i => (nI (sumN sh i), nI i)) (nI (sumN sh nM), nI nM) nM (fun i hi => ?_) ?_ (by omega)) rfl
  · unfold B_X2_sharesOfAll_4
    dsimp only
    rw [if_pos (nI_lt hi (by omega)), show (3 : Int32) = nI 3 from rfl, nI_add]
    refine sbind (C_get (len := 39) (wd := 13) hp (by omega) (by omega) (by decide) (by omega) (by decide)) ?_
    rw [h i hi, lt_eq, lt_eq, nI_add, show (1 : Int32) = nI 1 from rfl, nI_add]
    rfl
  · unfold B_X2_sharesOfAll_4
    dsimp only
    rw [if_neg (nI_nlt (Nat.le_refl _) (by omega))]
section OPS
variable {AK : (Nat → Int32) → (Nat → Int32) → Prop} {tc : Nat → Nat → Int32} {tr : Nat → Int32} {nar nam : Int32} {st : Nat → Int32}
theorem P_share (h : Rel AK tc tr nar nam st) (p0 p1 p2 : Int32) : Two (F_X11_share (tr 0) (tc 5) (tr 5) p0 p1 p2) (F_X12_share st p0 p1 p2) (fun o1 o2 => o1.1 = o2.1 ∧ Rel AK (va_up tc 5 o1.2) tr nar nam o2.2) := by
  have hsame : Rel AK (va_up tc 5 (tc 5)) tr nar nam st := by rw [vu_id]; exact h
  obtain ⟨n, a, b, R⟩ := h
  obtain ⟨⟨q1, q2, q3⟩, qT, qQ⟩ := id R.2.2.2.2.2.1
  obtain ⟨⟨m1, m2, m3⟩, -, -⟩ := id R.1
  refine two_guard (c := inR p0 0 (((n 4 : Nat) : Int) - 1)) (fun z => by rw [q2]; exact C_noP_t (by omega) z) (fun z => by rw [q2]; exact C_noP_f (by omega) z) (M_is_t (c := 4) (by decide) q3 (by omega)) (M_is_f (c := 4) (by decide) q3 (by omega)) (fun _ => two_end ⟨rfl, hsame⟩) (fun hp0 => ?_)
  refine two_guard (c := inR p1 0 (((n 0 : Nat) : Int) - 1)) (fun z => by rw [m2]; exact C_noM_t (by omega) z) (fun z => by rw [m2]; exact C_noM_f (by omega) z) (M_is_t (c := 0) (by decide) m3 (by omega)) (M_is_f (c := 0) (by decide) m3 (by omega)) (fun _ => two_end ⟨rfl, hsame⟩) (fun hp1 => ?_)
  refine two_guard (c := inR p2 1 30) (C_out_t rfl rfl) (C_out_f rfl rfl) (M_in_t rfl rfl) (M_in_f rfl rfl) (fun _ => two_end ⟨rfl, hsame⟩) (fun hp2 => ?_)
  obtain ⟨kp, kp1, kp2, rfl⟩ := inR_row hp0
  obtain ⟨km, km1, km2, rfl⟩ := inR_row hp1
  obtain ⟨kn, kn0, kn1, kn2, rfl⟩ := inR_natA (a := 1) (b := 30) hp2
  obtain ⟨mm, e, p, sh, z1, z2, z3, z4, z5, z6, z7, z8, z9, z10⟩ := qQ kp kp1
  have hst : ∀ j, j < 10 → st (1552 + 13 * kp + (3 + j)) = nI (sh j) := fun j hj => by rw [← z8 j hj, rowf_at (by omega)]
  have hcl : ∀ j, j < 10 → tc 5 (13 * kp + (3 + j)) = nI (sh j) := fun j hj => (qT kp (3 + j) kp1 (by omega)).trans (hst j hj)
  have hsum : sumN sh 10 = sumN sh (n 0) := by
    have := sumN_zero z9 (10 - n 0)
    rw [show n 0 + (10 - n 0) = 10 by omega] at this; exact this
  have hs30 : sumN sh 10 ≤ 30 := by rw [sumN_10]; exact z10
  have hshk : sh km ≤ 30 := by
    have h1 : sumN sh (km + 1) ≤ sumN sh 10 := sumN_mono sh (by omega)
    have h2 : sumN sh (km + 1) = sumN sh km + sh km := rfl
    omega
  refine two_l (by rw [q2, m2]; exact C_shares kp1 q1 m1 (fun j hj => hcl j (by omega))) (two_r (M_shares (by omega) hst) ?_)
  rw [← hsum, nI_add]
  refine two_if (fun he => two_end ⟨rfl, hsame⟩) (fun he => ?_)
  have hle : sumN sh 10 + kn ≤ 30 := by
    rw [show (30 : Int32) = nI 30 from rfl, nI_ltI (by decide) (by omega)] at he; omega
  rw [show (3 : Int32) = nI 3 from rfl, nI_add, show (1552 : Int32) = nI 1552 from rfl, show (13 : Int32) = nI 13 from rfl, pk_mul, nI_add, nI_add, nI_add]
  refine two_l (x := nI (sh km)) (by rw [q2, C_get (len := 39) (wd := 13) kp1 (by omega) (by omega) (by decide) (by omega) (by decide), hcl km (by omega)]) ?_
  rw [nI_add]
  refine two_lt (two_l (x := upd (tc 5) (13 * kp + (3 + km)) (nI (sh km + kn))) (by rw [q2]; exact C_set (len := 39) (wd := 13) kp1 (by omega) (by omega) (by decide) (by omega) (by decide)) ?_)
  refine two_r (x := nI (sh km)) (by rw [M_at (by omega), show 1552 + 13 * kp + 3 + km = 1552 + 13 * kp + (3 + km) by omega, hst km (by omega)]) ?_
  rw [nI_add]
  refine two_r (x := upd st (1552 + 13 * kp + (3 + km)) (nI (sh km + kn))) (by rw [M_set (by omega), show 1552 + 13 * kp + 3 + km = 1552 + 13 * kp + (3 + km) by omega]) ?_
  refine two_r (x := nI (sh km + kn)) (by rw [M_purseOf (by omega), pk_us]) ?_
  refine two_end ⟨rfl, ?_⟩
  have hR := R_pur (n := n) (m := n 4) (x := upd (tc 5) (13 * kp + (3 + km)) (nI (sh km + kn))) (y := tr 5) (st2 := upd st (1552 + 13 * kp + (3 + km)) (nI (sh km + kn))) R (fun j h1 h2 h3 => pk_un (by omega)) (rT_set R.2.2.2.2.2.1 (by decide) (by omega) (by omega) (fun _ hq => by
    refine ⟨mm, e, p, fun j => if j = km then sh km + kn else sh j, z1, z2, z3, z4, by rw [pk_un (by omega)]; exact z5, by rw [pk_un (by omega)]; exact z6, by rw [pk_un (by omega)]; exact z7, fun j hj => ?_, fun j hj => (if_neg (by omega)).trans (z9 j hj), ?_⟩
    · by_cases ej : j = km
      · subst ej; rw [pk_us]; exact congrArg nI (if_pos rfl).symm
      · rw [pk_un (by omega)]; exact (z8 j hj).trans (congrArg nI (if_neg ej).symm)
    · rw [sumN_10] at hle
      unfold sh10 at hle ⊢
      rcases (show km = 0 ∨ km = 1 ∨ km = 2 ∨ km = 3 ∨ km = 4 ∨ km = 5 ∨ km = 6 ∨ km = 7 ∨ km = 8 ∨ km = 9 by omega) with rfl | rfl | rfl | rfl | rfl | rfl | rfl | rfl | rfl | rfl <;> simp only [if_true, if_false, Nat.reduceEqDiff] <;> omega))
  rw [vu_id] at hR
  exact ⟨_, _, _, hR⟩
end OPS
