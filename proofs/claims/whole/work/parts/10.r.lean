/-! PURE LAWS 7: the readers: signs that wait -/
theorem ltR {a : Nat} (L : Int32) (b : Nat) (hL : L = nI b) (h : a < b) (hb : b < 2 ^ 31) : nI a < L := by rw [hL]; exact nI_lt h hb
theorem nltR {a : Nat} (L : Int32) (b : Nat) (hL : L = nI b) (h : b ≤ a) (ha : a < 2 ^ 31) : ¬ nI a < L := by rw [hL]; exact nI_nlt h ha
theorem ltL {b : Nat} (L : Int32) (a : Nat) (hL : L = nI a) (h : a < b) (hb : b < 2 ^ 31) : L < nI b := by rw [hL]; exact nI_lt h hb
theorem nltL {b : Nat} (L : Int32) (a : Nat) (hL : L = nI a) (h : b ≤ a) (ha : a < 2 ^ 31) : ¬ L < nI b := by rw [hL]; exact nI_nlt h ha
theorem neR {a : Nat} (L : Int32) (b : Nat) (hL : L = nI b) (ha : a < 2 ^ 31) (hb : b < 2 ^ 31) (h : a ≠ b) : ¬ nI a = L := by rw [hL]; exact ne_nI ha hb h
abbrev Sg := Fin 14
def Sg.no : Sg := ⟨0, by decide⟩
def Sg.ng : Sg := ⟨1, by decide⟩
def Sg.mu : Sg := ⟨2, by decide⟩
def Sg.di : Sg := ⟨3, by decide⟩
def Sg.pl : Sg := ⟨4, by decide⟩
def Sg.mi : Sg := ⟨5, by decide⟩
def Sg.lw : Sg := ⟨6, by decide⟩
def Sg.gt : Sg := ⟨7, by decide⟩
def Sg.eq : Sg := ⟨8, by decide⟩
def Sg.an : Sg := ⟨9, by decide⟩
def Sg.oo : Sg := ⟨10, by decide⟩
def Sg.op : Sg := ⟨11, by decide⟩
def Sg.as : Sg := ⟨12, by decide⟩
def Sg.el : Sg := ⟨13, by decide⟩
def Sg.cs (s : Sg) : Nat := match s.val with
  | 0 => 33
  | 1 => 126
  | 2 => 42
  | 3 => 47
  | 4 => 43
  | 5 => 45
  | 6 => 60
  | 7 => 62
  | 8 => 61
  | 9 => 38
  | 10 => 124
  | 11 => 40
  | 12 => 63
  | _ => 58
def Sg.ms (s : Sg) : Nat := match s.val with
  | 0 => 2
  | 1 => 3
  | 2 => 4
  | 3 => 5
  | 4 => 6
  | 5 => 7
  | 6 => 8
  | 7 => 9
  | 8 => 10
  | 9 => 11
  | 10 => 12
  | 11 => 13
  | 12 => 14
  | _ => 15
def Sg.rk (s : Sg) : Nat := match s.val with
  | 0 => 7
  | 1 => 7
  | 2 => 6
  | 3 => 6
  | 4 => 5
  | 5 => 5
  | 6 => 4
  | 7 => 4
  | 8 => 4
  | 9 => 3
  | 10 => 2
  | 11 => 0
  | 12 => 0
  | _ => 1
def Sg.hd (s : Sg) : Nat := match s.val with
  | 0 => 6
  | 1 => 6
  | 2 => 5
  | 3 => 5
  | 4 => 4
  | 5 => 4
  | 6 => 3
  | 7 => 3
  | 8 => 3
  | 9 => 2
  | 10 => 1
  | 11 => 0
  | 12 => 0
  | _ => 0
theorem all14 {P : Sg → Prop} (h0 : P Sg.no) (h1 : P Sg.ng) (h2 : P Sg.mu) (h3 : P Sg.di) (h4 : P Sg.pl) (h5 : P Sg.mi) (h6 : P Sg.lw) (h7 : P Sg.gt) (h8 : P Sg.eq) (h9 : P Sg.an) (h10 : P Sg.oo) (h11 : P Sg.op) (h12 : P Sg.as) (h13 : P Sg.el) (s : Sg) : P s := by
  obtain ⟨s, hs⟩ := s
  rcases (show s = 0 ∨ s = 1 ∨ s = 2 ∨ s = 3 ∨ s = 4 ∨ s = 5 ∨ s = 6 ∨ s = 7 ∨ s = 8 ∨ s = 9 ∨ s = 10 ∨ s = 11 ∨ s = 12 ∨ s = 13 by omega) with rfl | rfl | rfl | rfl | rfl | rfl | rfl | rfl | rfl | rfl | rfl | rfl | rfl | rfl
  · exact h0
  · exact h1
  · exact h2
  · exact h3
  · exact h4
  · exact h5
  · exact h6
  · exact h7
  · exact h8
  · exact h9
  · exact h10
  · exact h11
  · exact h12
  · exact h13
/-- what the class puts down for a sign -/
def Sg.kc (s : Sg) : Int32 := if nI s.cs = 58 then -63 else -(nI s.cs)
/-- how many values wait below a sign -/
def Sg.wt (s : Sg) : Nat := match s.val with
  | 0 => 0
  | 1 => 0
  | 2 => 1
  | 3 => 1
  | 4 => 1
  | 5 => 1
  | 6 => 1
  | 7 => 1
  | 8 => 1
  | 9 => 1
  | 10 => 1
  | 11 => 0
  | 12 => 1
  | _ => 2
theorem Sg_rank (s : Sg) : F_X7_rank (nI s.cs) = some (nI s.rk) := by revert s; apply all14 <;> rfl
theorem Sg_holds (s : Sg) : F_X12_holds (nI s.ms) = some (nI s.hd) := by revert s; apply all14 <;> rfl
theorem Sg_rkb (s : Sg) : s.rk ≤ 7 := by revert s; apply all14 <;> decide
theorem Sg_hdb (s : Sg) : s.hd ≤ 6 := by revert s; apply all14 <;> decide
/-- the height that is left when all at the top with p are gone -/
def popw (p : Sg → Bool) (g : Nat → Sg) : Nat → Nat
  | 0 => 0
  | h + 1 => if p (g h) then popw p g h else h + 1
theorem popw_le (p : Sg → Bool) (g : Nat → Sg) : ∀ h, popw p g h ≤ h
  | 0 => Nat.le_refl _
  | h + 1 => by
    unfold popw
    split
    · exact Nat.le_succ_of_le (popw_le p g h)
    · exact Nat.le_refl _
theorem popw_in (p : Sg → Bool) (g : Nat → Sg) : ∀ h k, popw p g h ≤ k → k < h → p (g k) = true
  | 0, k, _, h2 => absurd h2 (Nat.not_lt_zero _)
  | h + 1, k, h1, h2 => by
    unfold popw at h1
    split at h1
    · by_cases e : k = h
      · subst e; assumption
      · exact popw_in p g h k h1 (by omega)
    · omega
theorem popw_top (p : Sg → Bool) (g : Nat → Sg) : ∀ h, popw p g h = 0 ∨ p (g (popw p g h - 1)) = false
  | 0 => Or.inl rfl
  | h + 1 => by
    unfold popw
    split
    · exact popw_top p g h
    · right
      simp only [Nat.add_sub_cancel]
      exact Bool.eq_false_iff.mpr (by assumption)
/-- by what stands there -/
theorem popw_is {p : Sg → Bool} {g : Nat → Sg} {q : Nat} : ∀ {h : Nat}, q ≤ h → (∀ k, q ≤ k → k < h → p (g k) = true) → (q = 0 ∨ p (g (q - 1)) = false) → popw p g h = q
  | 0, h1, _, _ => by unfold popw; omega
  | h + 1, h1, h2, h3 => by
    unfold popw
    by_cases e : q = h + 1
    · rw [if_neg]
      · exact e.symm
      · rcases h3 with h3 | h3
        · omega
        · rw [e, Nat.add_sub_cancel] at h3; rw [h3]; decide
    · rw [if_pos (h2 h (by omega) (by omega))]
      exact popw_is (by omega) (fun k a b => h2 k a (by omega)) h3
/-- an array with more behind it -/
def emit (f : Nat → Int32) (c : Nat) (x : Nat → Int32) (m : Nat) : Nat → Int32 := fun k => if c ≤ k ∧ k < c + m then x (k - c) else f k
theorem emit_0 {f : Nat → Int32} {c : Nat} {x : Nat → Int32} : emit f c x 0 = f := by funext k; unfold emit; rw [if_neg (by omega)]
theorem emit_s {f : Nat → Int32} {c : Nat} {x : Nat → Int32} {m : Nat} : upd (emit f c x m) (c + m) (x m) = emit f c x (m + 1) := by
  funext k
  unfold upd emit
  by_cases e : k = c + m
  · rw [if_pos e, if_pos (by omega), e, Nat.add_sub_cancel_left]
  · rw [if_neg e]
    (repeat' split) <;> first | rfl | omega
theorem emit_in {f : Nat → Int32} {c : Nat} {x : Nat → Int32} {m j : Nat} (h : j < m) : emit f c x m (c + j) = x j := by
  unfold emit; rw [if_pos (by omega), Nat.add_sub_cancel_left]
theorem emit_out {f : Nat → Int32} {c : Nat} {x : Nat → Int32} {m k : Nat} (h : k < c) : emit f c x m k = f k := by
  unfold emit; rw [if_neg (by omega)]
def clo (w : Nat → Int32) (g : Nat → Sg) (h : Nat) : Prop := ∀ k, k < h → w k = nI (g k).cs
def mlo (w : Nat → Int32) (g : Nat → Sg) (h : Nat) : Prop := ∀ k, k < h → w k = nI (g k).ms
theorem C_top {w : Nat → Int32} {h : Nat} (h0 : 0 < h) (h1 : h ≤ 50) : F_X7_top w (nI h) = some (w (h - 1)) := by
  unfold F_X7_top
  refine sbind (x := w (h - 1)) ?_ rfl
  rw [if_pos (ltL 0 0 rfl h0 (by omega)), if_neg (nltL 50 50 rfl h1 (by decide))]
  exact sbind (by rw [show (1 : Int32) = nI 1 from rfl, pk_sub h0]; exact gI_at (by omega) (by decide)) rfl
theorem C_top0 {w : Nat → Int32} : F_X7_top w 0 = some 0 := rfl
theorem C_put {f : Nat → Int32} {c : Nat} {x : Int32} (h : c < 50) : F_X7_put f (nI c) x = some (upd f c x, nI (c + 1)) := by
  unfold F_X7_put
  refine sbind (x := (upd f c x, nI (c + 1))) ?_ rfl
  rw [if_neg (nI_pos (by omega)), if_pos (ltR 50 50 rfl h (by decide))]
  refine sbind (sI_at h (by decide)) ?_
  rw [lt_eq, nI_1]
theorem C_push {f : Nat → Int32} {c : Nat} {x : Int32} (h : c < 50) : F_X7_push f (nI c) x = some (upd f c x, nI (c + 1)) := by
  unfold F_X7_push
  refine sbind (x := (upd f c x, nI (c + 1))) ?_ rfl
  rw [if_neg (nI_pos (by omega)), if_pos (ltR 50 50 rfl h (by decide))]
  refine sbind (sI_at h (by decide)) ?_
  rw [lt_eq, nI_1]
def pC (r : Nat) : Sg → Bool := fun s => decide (r ≤ s.rk)
def pM (t : Nat) : Sg → Bool := fun s => decide (t ≤ s.hd)
theorem C_release {f w : Nat → Int32} {g : Nat → Sg} {c h r : Nat} (hw : clo w g h) (hr : 0 < r) (hr2 : r < 100) (hb : c + h ≤ 50) : F_X7_release f (nI c) w (nI h) (nI r) = some (emit f c (fun j => (g (h - 1 - j)).kc) (h - popw (pC r) g h), nI (c + (h - popw (pC r) g h)), nI (popw (pC r) g h)) := by
  unfold F_X7_release
  have hq := popw_le (pC r) g h
  have hin := popw_in (pC r) g h
  have htop := popw_top (pC r) g h
  generalize popw (pC r) g h = q at hq hin htop ⊢
  have h0 : ((0 : Int32), f, nI c, nI h) = (fun j => (nI j, emit f c (fun j => (g (h - 1 - j)).kc) j, nI (c + j), nI (h - j))) 0 := by
    show _ = (nI 0, emit f c _ 0, nI (c + 0), nI (h - 0))
    rw [emit_0]; rfl
  rw [h0]
  refine sbind (itr_cnt (fun j => (nI j, emit f c (fun j => (g (h - 1 - j)).kc) j, nI (c + j), nI (h - j))) (nI (h - q), emit f c (fun j => (g (h - 1 - j)).kc) (h - q), nI (c + (h - q)), nI q) (h - q) (fun j hj => ?_) ?_ (by omega)) rfl
  · have hg : w (h - j - 1) = nI (g (h - 1 - j)).cs := by rw [hw _ (by omega), show h - j - 1 = h - 1 - j by omega]
    have hp : r ≤ (g (h - 1 - j)).rk := of_decide_eq_true (hin (h - 1 - j) (by omega) (by omega))
    have hrb := Sg_rkb (g (h - 1 - j))
    unfold B_X7_release_2
    dsimp only
    rw [if_pos (ltR 50 50 rfl (by omega) (by decide))]
    refine sbind (C_top (by omega) (by omega)) ?_
    rw [hg]
    refine sbind (Sg_rank _) ?_
    rw [if_neg (nI_nlt hp (by omega))]
    refine sbind (C_top (by omega) (by omega)) ?_
    rw [hg]
    refine sbind (x := (g (h - 1 - j)).kc) (by unfold Sg.kc; split <;> rfl) ?_
    refine sbind (C_put (by omega)) ?_
    rw [lt_eq, lt_eq, nI_1, show (1 : Int32) = nI 1 from rfl, pk_sub (by omega)]
    dsimp only
    rw [show c + j + 1 = c + (j + 1) by omega, show h - j - 1 = h - (j + 1) by omega, emit_s (x := fun j => (g (h - 1 - j)).kc)]
  · unfold B_X7_release_2
    dsimp only
    rw [show h - (h - q) = q by omega]
    by_cases h50 : h - q < 50
    · rw [if_pos (ltR 50 50 rfl h50 (by decide))]
      rcases Nat.eq_zero_or_pos q with e | e
      · subst e
        refine sbind C_top0 (sbind (x := (0 : Int32)) rfl ?_)
        rw [if_pos (ltL 0 0 rfl hr (by omega))]
      · refine sbind (C_top e (by omega)) ?_
        rw [hw _ (by omega)]
        refine sbind (Sg_rank _) ?_
        have hlt : (g (q - 1)).rk < r := by
          rcases htop with h | h
          · omega
          · have := of_decide_eq_false h; omega
        rw [if_pos (nI_lt hlt (by omega))]
    · rw [if_neg (nltR 50 50 rfl (by omega) (by omega))]
theorem M_emits {f x : Nat → Int32} {c : Nat} {a b : Int32} (h : c < 70) : F_X12_emits f (nI c) x a b = some (upd f c a, nI (c + 1), upd x c b) := by
  unfold F_X12_emits
  refine sbind (sI_at h (by decide)) (sbind (sI_at h (by decide)) ?_)
  rw [lt_eq, nI_1]
theorem M_waitsWith {w : Nat → Int32} {c : Nat} {x : Int32} (h : c < 70) : F_X12_waitsWith (nI c) w x = some (nI (c + 1), upd w c x) := by
  unfold F_X12_waitsWith
  refine sbind (sI_at h (by decide)) ?_
  rw [lt_eq, nI_1]
def z0 : Nat → Int32 := fun _ => 0
theorem M_settles {f x w : Nat → Int32} {g : Nat → Sg} {c h t : Nat} (hw : mlo w g h) (ht : t < 100) (hb : c + h ≤ 50) : F_X12_settles f (nI c) (nI h) w x (nI t) = some (emit f c (fun j => nI (g (h - 1 - j)).ms) (h - popw (pM t) g h), nI (c + (h - popw (pM t) g h)), nI (popw (pM t) g h), emit x c z0 (h - popw (pM t) g h)) := by
  unfold F_X12_settles
  have hq := popw_le (pM t) g h
  have hin := popw_in (pM t) g h
  have htop := popw_top (pM t) g h
  generalize popw (pM t) g h = q at hq hin htop ⊢
  have h0 : (f, nI c, nI h, x) = (fun j => (emit f c (fun j => nI (g (h - 1 - j)).ms) j, nI (c + j), nI (h - j), emit x c z0 j)) 0 := by
    show _ = (emit f c _ 0, nI (c + 0), nI (h - 0), emit x c _ 0)
    rw [emit_0, emit_0]; rfl
  rw [h0]
  refine sbind (itr_cnt (fun j => (emit f c (fun j => nI (g (h - 1 - j)).ms) j, nI (c + j), nI (h - j), emit x c z0 j)) (emit f c (fun j => nI (g (h - 1 - j)).ms) (h - q), nI (c + (h - q)), nI q, emit x c z0 (h - q)) (h - q) (fun j hj => ?_) ?_ (by omega)) rfl
  · have hg : w (h - j - 1) = nI (g (h - 1 - j)).ms := by rw [hw _ (by omega), show h - j - 1 = h - 1 - j by omega]
    have hp : t ≤ (g (h - 1 - j)).hd := of_decide_eq_true (hin (h - 1 - j) (by omega) (by omega))
    have hrb := Sg_hdb (g (h - 1 - j))
    have hgi : gI w 70 (nI (h - j - 1)) = some (nI (g (h - 1 - j)).ms) := by rw [gI_at (by omega) (by decide), hg]
    unfold B_X12_settles_0
    dsimp only
    rw [if_pos (ltL 0 0 rfl (by omega) (by omega)), show (1 : Int32) = nI 1 from rfl, pk_sub (by omega)]
    refine sbind hgi (sbind (Sg_holds _) ?_)
    rw [if_neg (nI_nlt hp (by omega)), lt_eq]
    refine sbind hgi (sbind (M_emits (by omega)) ?_)
    dsimp only
    rw [show c + j + 1 = c + (j + 1) by omega, show h - j - 1 = h - (j + 1) by omega, emit_s (x := fun j => nI (g (h - 1 - j)).ms), show (0 : Int32) = z0 j from rfl, emit_s (x := z0)]
  · unfold B_X12_settles_0
    dsimp only
    rw [show h - (h - q) = q by omega]
    rcases Nat.eq_zero_or_pos q with e | e
    · subst e; rw [if_neg (nltL (b := 0) 0 0 rfl (Nat.le_refl 0) (by decide))]
    · rw [if_pos (ltL 0 0 rfl e (by omega)), show (1 : Int32) = nI 1 from rfl, pk_sub (by omega)]
      refine sbind (gI_at (by omega) (by decide)) ?_
      rw [hw _ (by omega)]
      refine sbind (Sg_holds _) ?_
      have hlt : (g (q - 1)).hd < t := by
        rcases htop with h | h
        · omega
        · have := of_decide_eq_false h; omega
      rw [if_pos (nI_lt hlt (by omega))]
def pE : Sg → Bool := fun s => decide (s = Sg.el)
theorem pE_t {s : Sg} (h : pE s = true) : s = .el := of_decide_eq_true h
theorem pE_f {s : Sg} (h : pE s = false) : ¬ nI s.ms = 15 := by
  revert s; apply all14 <;> intro h <;> first | decide | cases h
theorem M_closes {f x w : Nat → Int32} {g : Nat → Sg} {c h : Nat} (hw : mlo w g h) (hb : c + h ≤ 50) {q : Nat} (hq : popw pE g (popw (pM 1) g h) = q) : F_X12_closes f (nI c) (nI h) w x = some (if q = 0 then -1 else nI (g (q - 1)).ms, emit f c (fun j => nI (g (h - 1 - j)).ms) (h - q), nI (c + (h - q)), nI q, emit x c z0 (h - q)) := by
  unfold F_X12_closes
  refine sbind (M_settles (t := 1) hw (by decide) hb) ?_
  have hu := popw_le (pM 1) g h
  generalize popw (pM 1) g h = u at hu hq ⊢
  have hq2 := popw_le pE g u
  have hin := popw_in pE g u
  have htop := popw_top pE g u
  rw [hq] at hq2 hin htop
  dsimp only
  have e1 : ∀ j, j < u - q → emit f c (fun j => nI (g (h - 1 - j)).ms) ((h - u) + (j + 1)) = upd (emit f c (fun j => nI (g (h - 1 - j)).ms) ((h - u) + j)) (c + ((h - u) + j)) 15 := fun j hj => by
    rw [← Nat.add_assoc, ← emit_s (x := fun j => nI (g (h - 1 - j)).ms)]
    have : g (h - 1 - (h - u + j)) = Sg.el := pE_t (hin _ (by omega) (by omega))
    rw [this]; rfl
  refine sbind (itr_cnt (fun j => (emit f c (fun j => nI (g (h - 1 - j)).ms) ((h - u) + j), nI (c + ((h - u) + j)), nI (u - j), emit x c z0 ((h - u) + j))) (emit f c (fun j => nI (g (h - 1 - j)).ms) (h - q), nI (c + (h - q)), nI q, emit x c z0 (h - q)) (u - q) (fun j hj => ?_) ?_ (by omega)) ?_
  · unfold B_X12_closes_5
    dsimp only
    rw [if_pos (ltL 0 0 rfl (by omega) (by omega)), show (1 : Int32) = nI 1 from rfl, pk_sub (by omega)]
    refine sbind (gI_at (by omega) (by decide)) ?_
    rw [hw _ (by omega), pE_t (hin (u - j - 1) (by omega) (by omega)), if_pos (by decide), lt_eq]
    refine sbind (M_emits (by omega)) ?_
    dsimp only
    rw [e1 j hj, show c + (h - u + j) + 1 = c + (h - u + (j + 1)) by omega, show u - j - 1 = u - (j + 1) by omega, show (0 : Int32) = z0 (h - u + j) from rfl, emit_s (x := z0)]
    rfl
  · unfold B_X12_closes_5
    dsimp only
    rw [show u - (u - q) = q by omega, show h - u + (u - q) = h - q by omega]
    rcases Nat.eq_zero_or_pos q with e | e
    · subst e; rw [if_neg (nltL (b := 0) 0 0 rfl (Nat.le_refl 0) (by decide))]
    · rw [if_pos (ltL 0 0 rfl e (by omega)), show (1 : Int32) = nI 1 from rfl, pk_sub (by omega)]
      refine sbind (gI_at (by omega) (by decide)) ?_
      rw [hw _ (by omega)]
      rcases htop with h | h
      · omega
      · rw [if_neg (pE_f h)]
  · dsimp only
    refine sbind (x := if q = 0 then (-1 : Int32) else nI (g (q - 1)).ms) ?_ rfl
    rcases Nat.eq_zero_or_pos q with e | e
    · subst e; rfl
    · rw [if_neg (nI_ne0 e (by omega)), if_neg (by omega), show (1 : Int32) = nI 1 from rfl, pk_sub (by omega)]
      refine sbind (gI_at (by omega) (by decide)) ?_
      rw [hw _ (by omega)]
