/-! PURE LAWS 8: codes side by side; what is released and what is settled -/
def nmC (v : Nat) : Int32 := if v = 0 then 103 else if v = 1 then 107 else if v = 2 then 116 else if v = 3 then 115 else 119
def CK (f step wth : Nat → Int32) (k d d' : Nat) : Prop :=
  (∃ v : Nat, v < 1000000 ∧ f k = nI v ∧ step k = 0 ∧ wth k = nI v ∧ d' = d + 1) ∨
  (∃ v : Nat, v < 5 ∧ f k = -(nmC v) ∧ step k = 1 ∧ wth k = nI v ∧ d' = d + 1) ∨
  (∃ s : Sg, s ≠ Sg.op ∧ s ≠ Sg.as ∧ f k = s.kc ∧ step k = nI s.ms ∧ s.wt + 1 ≤ d ∧ d' + s.wt = d)
def KD (f step wth : Nat → Int32) : Nat → Nat → Prop
  | 0, d => d = 0
  | c + 1, d => ∃ d0, KD f step wth c d0 ∧ CK f step wth c d0 d
theorem KD_frame {f step wth f2 step2 wth2 : Nat → Int32} : ∀ {c d : Nat}, (∀ k, k < c → f2 k = f k ∧ step2 k = step k ∧ wth2 k = wth k) → KD f step wth c d → KD f2 step2 wth2 c d
  | 0, _, _, h => h
  | c + 1, d, hf, ⟨d0, h1, h2⟩ => by
    refine ⟨d0, KD_frame (fun k hk => hf k (by omega)) h1, ?_⟩
    obtain ⟨a, b, e⟩ := hf c (by omega)
    unfold CK at h2 ⊢
    rw [a, b, e]; exact h2
def wsm (g : Nat → Sg) : Nat → Nat
  | 0 => 0
  | h + 1 => wsm g h + (g h).wt
theorem KD_signs {f step wth : Nat → Int32} {g : Nat → Sg} {c h q : Nat} (hq : q ≤ h) (hk : KD f step wth c (wsm g h + 1)) (hs : ∀ k, q ≤ k → k < h → g k ≠ Sg.op ∧ g k ≠ Sg.as) (he : ∀ j, j < h - q → f (c + j) = (g (h - 1 - j)).kc ∧ step (c + j) = nI (g (h - 1 - j)).ms) : KD f step wth (c + (h - q)) (wsm g q + 1) := by
  have key : ∀ m, m ≤ h - q → KD f step wth (c + m) (wsm g (h - m) + 1) := by
    intro m
    induction m with
    | zero => intro _; exact hk
    | succ m ih =>
      intro hm
      refine ⟨_, ih (by omega), Or.inr (Or.inr ⟨g (h - 1 - m), (hs _ (by omega) (by omega)).1, (hs _ (by omega) (by omega)).2, (he m (by omega)).1, (he m (by omega)).2, ?_, ?_⟩)⟩
      · rw [show h - m = (h - 1 - m) + 1 by omega]
        show _ ≤ wsm g (h - 1 - m) + (g (h - 1 - m)).wt + 1
        omega
      · rw [show h - m = (h - 1 - m) + 1 by omega, show h - (m + 1) = h - 1 - m by omega]
        show _ = wsm g (h - 1 - m) + (g (h - 1 - m)).wt + 1
        omega
  have := key (h - q) (Nat.le_refl _)
  rw [show h - (h - q) = q by omega] at this
  exact this
def Shp (g : Nat → Sg) (h : Nat) : Prop := ∀ k, k + 1 < h → (g (k + 1) = Sg.as ∨ g (k + 1) = Sg.el) → (g k).hd = 0
def nOp (g : Nat → Sg) : Nat → Nat
  | 0 => 0
  | h + 1 => nOp g h + (if g h = Sg.op then 1 else 0)
theorem popw_congr {p p' : Sg → Bool} {g g' : Nat → Sg} : ∀ {h : Nat}, (∀ k, k < h → p (g k) = p' (g' k)) → popw p g h = popw p' g' h
  | 0, _ => rfl
  | h + 1, hh => by
    unfold popw
    rw [hh h (by omega), popw_congr (fun k hk => hh k (by omega))]
theorem popw_popw {p p' : Sg → Bool} {g : Nat → Sg} (hp : ∀ s, p s = true → p' s = true) : ∀ h, popw p' g (popw p g h) = popw p' g h
  | 0 => rfl
  | h + 1 => by
    by_cases e : p (g h) = true
    · have e1 : popw p g (h + 1) = popw p g h := by
        show (if p (g h) = true then _ else _) = _
        rw [if_pos e]
      have e2 : popw p' g (h + 1) = popw p' g h := by
        show (if p' (g h) = true then _ else _) = _
        rw [if_pos (hp _ e)]
      rw [e1, e2]; exact popw_popw hp h
    · have e1 : popw p g (h + 1) = h + 1 := by
        show (if p (g h) = true then _ else _) = _
        rw [if_neg e]
      rw [e1]
theorem Sg_pCM (s : Sg) : ∀ t, t < 7 → 1 ≤ t → pC (t + 1) s = pM t s := by
  revert s
  apply all14 <;> decide
theorem Sg_M1 (s : Sg) : 1 ≤ s.hd → s ≠ Sg.op ∧ s ≠ Sg.as := by revert s; apply all14 <;> decide
theorem Sg_C1 (s : Sg) : 1 ≤ s.rk → s ≠ Sg.op ∧ s ≠ Sg.as := by revert s; apply all14 <;> decide
theorem Sg_el (s : Sg) : 1 ≤ s.rk → s.hd = 0 → s = Sg.el := by revert s; apply all14 <;> decide
theorem Sg_MC (s : Sg) : 1 ≤ s.hd → 1 ≤ s.rk := by revert s; apply all14 <;> decide
theorem Sg_rk0 (s : Sg) : s.rk = 0 → s = Sg.op ∨ s = Sg.as := by revert s; apply all14 <;> decide
theorem clo_le {w : Nat → Int32} {g : Nat → Sg} {h q : Nat} (h1 : clo w g h) (hq : q ≤ h) : clo w g q := fun k hk => h1 k (by omega)
theorem mlo_le {w : Nat → Int32} {g : Nat → Sg} {h q : Nat} (h1 : mlo w g h) (hq : q ≤ h) : mlo w g q := fun k hk => h1 k (by omega)
theorem Shp_le {g : Nat → Sg} {h q : Nat} (h1 : Shp g h) (hq : q ≤ h) : Shp g q := fun k hk => h1 k (by omega)
/-- the class's release and the model's, from behind a unit -/
theorem REL {f w step wth waits : Nat → Int32} {g : Nat → Sg} {c h t q6 : Nat} (hw : clo w g h) (e6 : popw (pM 6) g h = q6) (hm : mlo waits g q6) (hk : KD f step wth c (wsm g h + 1)) (pre : ∀ j, j < h - q6 → step (c + j) = nI (g (h - 1 - j)).ms) (h1 : 1 ≤ t) (h6 : t ≤ 6) (hb : c + h ≤ 50) :
    ∃ (f2 step2 wth2 : Nat → Int32) (q : Nat), popw (pM t) g h = q ∧ q ≤ q6 ∧ q6 ≤ h ∧ F_X7_release f (nI c) w (nI h) (nI (t + 1)) = some (f2, nI (c + (h - q)), nI q) ∧ F_X12_settles step (nI (c + (h - q6))) (nI q6) waits wth (nI t) = some (step2, nI (c + (h - q)), nI q, wth2) ∧ KD f2 step2 wth2 (c + (h - q)) (wsm g q + 1) := by
  have hle6 : q6 ≤ h := by rw [← e6]; exact popw_le _ _ _
  obtain ⟨q, hq⟩ : ∃ q, popw (pM t) g h = q := ⟨_, rfl⟩
  have hqc : popw (pC (t + 1)) g h = q := by rw [← hq]; exact popw_congr (fun k _ => Sg_pCM (g k) t (by omega) h1)
  have hqm : popw (pM t) g q6 = q := by
    rw [← hq, ← e6]
    refine popw_popw (fun s hs => ?_) h
    have := of_decide_eq_true hs
    exact decide_eq_true (by omega)
  have hq6 : q ≤ q6 := by rw [← hqm]; exact popw_le _ _ _
  refine ⟨emit f c (fun j => (g (h - 1 - j)).kc) (h - q), emit step (c + (h - q6)) (fun j => nI (g (q6 - 1 - j)).ms) (q6 - q), emit wth (c + (h - q6)) z0 (q6 - q), q, hq, hq6, hle6, ?_, ?_, ?_⟩
  · rw [C_release hw (by omega) (by omega) hb, hqc]
  · rw [M_settles (t := t) hm (by omega) (by omega), hqm, show c + (h - q6) + (q6 - q) = c + (h - q) by omega]
  · refine KD_signs (g := g) (h := h) (q := q) (by omega) (KD_frame (fun k hk => ⟨emit_out hk, emit_out (by omega), emit_out (by omega)⟩) hk) (fun k a b => ?_) (fun j hj => ⟨emit_in hj, ?_⟩)
    · have := of_decide_eq_true (popw_in (pM t) g h k (by omega) b)
      exact Sg_M1 _ (by omega)
    · by_cases hj6 : j < h - q6
      · rw [emit_out (by omega)]; exact pre j hj6
      · rw [show c + j = c + (h - q6) + (j - (h - q6)) by omega, emit_in (by omega), show q6 - 1 - (j - (h - q6)) = h - 1 - j by omega]
theorem CLO {f w step wth waits : Nat → Int32} {g : Nat → Sg} {c h q6 : Nat} (hw : clo w g h) (e6 : popw (pM 6) g h = q6) (hm : mlo waits g q6) (hk : KD f step wth c (wsm g h + 1)) (pre : ∀ j, j < h - q6 → step (c + j) = nI (g (h - 1 - j)).ms) (hS : Shp g h) (hb : c + h ≤ 50) :
    ∃ (f2 step2 wth2 : Nat → Int32) (q : Nat), q ≤ q6 ∧ q6 ≤ h ∧ F_X7_release f (nI c) w (nI h) 1 = some (f2, nI (c + (h - q)), nI q) ∧ F_X12_closes step (nI (c + (h - q6))) (nI q6) waits wth = some (if q = 0 then -1 else nI (g (q - 1)).ms, step2, nI (c + (h - q)), nI q, wth2) ∧ KD f2 step2 wth2 (c + (h - q)) (wsm g q + 1) ∧ (q = 0 ∨ g (q - 1) = Sg.op ∨ g (q - 1) = Sg.as) ∧ (∀ k, q ≤ k → k < h → g k ≠ Sg.op ∧ g k ≠ Sg.as) := by
  have hle6 : q6 ≤ h := by rw [← e6]; exact popw_le _ _ _
  obtain ⟨q, hq⟩ : ∃ q, popw (pC 1) g h = q := ⟨_, rfl⟩
  obtain ⟨u, hu⟩ : ∃ u, popw (pM 1) g q6 = u := ⟨_, rfl⟩
  have huq : u ≤ q6 := by rw [← hu]; exact popw_le _ _ _
  have hmc : ∀ s, pM 1 s = true → pC 1 s = true := fun s hs => decide_eq_true (Sg_MC s (of_decide_eq_true hs))
  have hmc6 : ∀ s, pM 6 s = true → pC 1 s = true := fun s hs => hmc s (by have := of_decide_eq_true hs; exact decide_eq_true (by omega))
  have hqu : popw (pC 1) g u = q := by rw [← hu, popw_popw hmc, ← e6, popw_popw hmc6, hq]
  have hqle : q ≤ u := by rw [← hqu]; exact popw_le _ _ _
  have hin : ∀ k, q ≤ k → k < h → 1 ≤ (g k).rk := fun k a b => of_decide_eq_true (popw_in (pC 1) g h k (by omega) b)
  have htop := popw_top (pC 1) g h
  rw [hq] at htop
  have htopu := popw_top (pM 1) g q6
  rw [hu] at htopu
  have hel : ∀ m k, k + 1 + m = u → q ≤ k → g k = Sg.el := by
    intro m
    induction m with
    | zero =>
      intro k e a
      refine Sg_el _ (hin k a (by omega)) ?_
      rcases htopu with z | z
      · omega
      · rw [show u - 1 = k by omega] at z
        have := of_decide_eq_false z
        omega
    | succ m ih =>
      intro k e a
      exact Sg_el _ (hin k a (by omega)) (hS k (by omega) (Or.inr (ih (k + 1) (by omega) (by omega))))
  have hE : popw pE g (popw (pM 1) g q6) = q := by
    rw [hu]
    refine popw_is hqle (fun k a b => decide_eq_true (hel (u - 1 - k) k (by omega) a)) ?_
    rcases htop with z | z
    · exact Or.inl z
    · right
      have h0 : (g (q - 1)).rk = 0 := by have := of_decide_eq_false z; omega
      refine decide_eq_false (fun e => ?_)
      rw [e] at h0; exact absurd h0 (by decide)
  refine ⟨emit f c (fun j => (g (h - 1 - j)).kc) (h - q), emit step (c + (h - q6)) (fun j => nI (g (q6 - 1 - j)).ms) (q6 - q), emit wth (c + (h - q6)) z0 (q6 - q), q, by omega, hle6, ?_, ?_, ?_, ?_, ?_⟩
  · rw [show (1 : Int32) = nI 1 from rfl, C_release hw (by omega) (by omega) hb, hq]
  · rw [M_closes hm (by omega) hE, show c + (h - q6) + (q6 - q) = c + (h - q) by omega]
  · refine KD_signs (g := g) (h := h) (q := q) (by omega) (KD_frame (fun k hk => ⟨emit_out hk, emit_out (by omega), emit_out (by omega)⟩) hk) (fun k a b => Sg_C1 _ (hin k a b)) (fun j hj => ⟨emit_in hj, ?_⟩)
    by_cases hj6 : j < h - q6
    · rw [emit_out (by omega)]; exact pre j hj6
    · rw [show c + j = c + (h - q6) + (j - (h - q6)) by omega, emit_in (by omega), show q6 - 1 - (j - (h - q6)) = h - 1 - j by omega]
  · rcases htop with z | z
    · exact Or.inl z
    · exact Or.inr (Sg_rk0 _ (by have := of_decide_eq_false z; omega))
  · exact fun k a b => Sg_C1 _ (hin k a b)
