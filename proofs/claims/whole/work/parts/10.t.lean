/-! PURE LAWS 9: the readers, step by step -/
def Ev {S T : Type} (f : S → Option (S ⊕ T)) (s : S) (t : T) (a : Nat) : Prop := ∀ K, a ≤ K → itr f K s = some t
theorem Ev_in {S T : Type} {f : S → Option (S ⊕ T)} {s s' : S} {t : T} {a b : Nat} (h : f s = some (.inl s')) (k : Ev f s' t a) (hb : a + 1 ≤ b) : Ev f s t b := by
  intro K hK
  obtain ⟨m, rfl⟩ : ∃ m, K = m + 1 := ⟨K - 1, by omega⟩
  rw [itr_in h]; exact k m (by omega)
theorem Ev_out {S T : Type} {f : S → Option (S ⊕ T)} {s : S} {t : T} {b : Nat} (h : f s = some (.inr t)) (hb : 1 ≤ b) : Ev f s t b := by
  intro K hK
  obtain ⟨m, rfl⟩ : ∃ m, K = m + 1 := ⟨K - 1, by omega⟩
  exact itr_out h
def dig (x : Int32) : Prop := inR x 48 57
theorem dig_of {x : Int32} (h : dig x) : ∃ d : Nat, d < 10 ∧ x = nI (48 + d) := by
  obtain ⟨k, h1, h2, h3, h4⟩ := inR_natA (a := 48) (b := 57) h
  exact ⟨k - 48, by omega, by rw [h4, show 48 + (k - 48) = k by omega]⟩
theorem C_take_nd {f w : Nat → Int32} {c dg fa fd nb op du h i ch : Int32} (hn : ¬ dig ch) : F_X7_take f c dg fa fd nb op du w h i ch = J_X7_take_1_22 f c dg nb ch fa fd op du w h i () := by
  unfold F_X7_take
  by_cases h1 : ch < 48
  · rw [if_pos h1]
  · rw [if_neg h1, if_pos]
    rw [Int32.lt_iff_toInt_lt, show (57 : Int32).toInt = 57 from rfl]
    rw [Int32.lt_iff_toInt_lt, show (48 : Int32).toInt = 48 from rfl] at h1
    unfold dig inR at hn
    omega
theorem C_take_d {f w : Nat → Int32} {c dg fa fd nb op du h i ch : Int32} (hn : dig ch) : F_X7_take f c dg fa fd nb op du w h i ch = Option.bind (F_X7_takeDigit dg fa fd nb du i (ch - 48)) fun c_6 => some (f, c, c_6.1, c_6.2.1, c_6.2.2.1, c_6.2.2.2.1, op, c_6.2.2.2.2, w, h) := by
  unfold F_X7_take
  unfold dig inR at hn
  rw [if_neg (by rw [Int32.lt_iff_toInt_lt, show (48 : Int32).toInt = 48 from rfl]; omega), if_neg (by rw [Int32.lt_iff_toInt_lt, show (57 : Int32).toInt = 57 from rfl]; omega)]
theorem C_dig_f {fa fd nb i x : Int32} : F_X7_takeDigit 0 fa fd nb 0 i x = some (0, 10 * i + 1, fd, nb, 0) := rfl
theorem C_dig_1 {fa fd nb i x : Int32} : F_X7_takeDigit 0 fa fd nb 1 i x = some (nI 1, fa, i, x, 0) := rfl
theorem C_dig_n {fa fd nb i x du : Int32} {k : Nat} (h1 : 1 ≤ k) (h6 : k < 6) : F_X7_takeDigit (nI k) fa fd nb du i x = some (nI (k + 1), fa, fd, 10 * nb + x, 0) := by
  rcases (show k = 1 ∨ k = 2 ∨ k = 3 ∨ k = 4 ∨ k = 5 by omega) with rfl | rfl | rfl | rfl | rfl <;> rfl
theorem C_dig_6 {fa fd nb i x du : Int32} : F_X7_takeDigit (nI 6) fa fd nb du i x = some (nI 6, 10 * fd + 2, fd, nb, du) := rfl
theorem C_end_0 {f : Nat → Int32} {c nb : Int32} : F_X7_endNumber f c 0 nb = some (f, c, 0) := rfl
theorem C_end_n {f : Nat → Int32} {nb : Int32} {c k : Nat} (h1 : 1 ≤ k) (h6 : k ≤ 6) (hc : c < 50) : F_X7_endNumber f (nI c) (nI k) nb = some (upd f c nb, nI (c + 1), 0) := by
  unfold F_X7_endNumber
  rw [if_pos (ltL 0 0 rfl h1 (by omega))]
  exact sbind (sbind (C_put hc) rfl) rfl
abbrev CT := Int32 × (Nat → Int32) × Int32 × Int32 × Int32 × Int32 × Int32 × Int32 × Int32 × (Nat → Int32) × Int32
abbrev MT := Int32 × Int32 × Int32 × (Nat → Int32) × Int32 × Int32 × (Nat → Int32) × (Nat → Int32)
abbrev MF := Int32 × (Nat → Int32) × Int32 × Int32 × (Nat → Int32) × (Nat → Int32)
def RdH (tx : Nat → Int32) (n N : Nat) (cells : Nat → Int32) (rows wd t : Int32) (st : Nat → Int32) (pp : Int32) : Prop := n ≤ 50 ∧ (∀ i, i < n → F_X8_get N cells rows wd t (1 + nI i) = some (tx i)) ∧ (∀ i, i < n → gI st 1951 (pp + 1 + nI i) = some (tx i))
def RdX (tx : Nat → Int32) (n i : Nat) (f : Nat → Int32) (c dg nb op du : Int32) (w : Nat → Int32) (h mop whole : Int32) (step : Nat → Int32) (steps waiting : Int32) (waits wth : Nat → Int32) : Prop :=
  ∃ (g : Nat → Sg) (c' h' o : Nat) (f' : Nat → Int32), (op = nI o ∧ mop = nI o ∧ o ≤ 8 ∧ o = nOp g h' ∧ h = nI h' ∧ c' + h' ≤ i ∧ Shp g h' ∧ clo w g h' ∧ F_X7_endNumber f c dg nb = some (f', nI c', 0)) ∧
    ((du = 1 ∧ whole = 0 ∧ dg = 0 ∧ steps = nI c' ∧ waiting = nI h' ∧ mlo waits g h' ∧ KD f' step wth c' (wsm g h')) ∨
     (du = 0 ∧ whole = 1 ∧ (dg = 0 ∨ (i < n → ¬ dig (tx i))) ∧ ∃ q, popw (pM 6) g h' = q ∧ steps = nI (c' + (h' - q)) ∧ waiting = nI q ∧ mlo waits g q ∧ KD f' step wth c' (wsm g h' + 1) ∧ ∀ j, j < h' - q → step (c' + j) = nI (g (h' - 1 - j)).ms))
def RdP (tx : Nat → Int32) (n : Nat) (tC : CT) (tM : MT ⊕ MF) : Prop :=
  (∃ x : Int32, x ≠ -1 ∧ tC.2.2.2.2.1 = x ∧ ∃ z : MF, tM = .inr z ∧ z.1 = x) ∨
  (tC.2.2.2.2.1 = -1 ∧ ∃ y : MT, tM = .inl y ∧ RdX tx n n tC.2.1 tC.2.2.1 tC.2.2.2.1 tC.2.2.2.2.2.2.1 tC.2.2.2.2.2.2.2.1 tC.2.2.2.2.2.2.2.2.1 tC.2.2.2.2.2.2.2.2.2.1 tC.2.2.2.2.2.2.2.2.2.2 y.1 y.2.1 y.2.2.2.1 y.2.2.2.2.1 y.2.2.2.2.2.1 y.2.2.2.2.2.2.1 y.2.2.2.2.2.2.2)
def RdF (tx : Nat → Int32) (n N : Nat) (cells : Nat → Int32) (rows wd t : Int32) (st : Nat → Int32) (pp : Int32) (s1 : CT) (s2 : MT) (i : Nat) : Prop :=
  ∃ (tC : CT) (tM : MT ⊕ MF), Ev (B_X7_read_40 (nI n) N cells rows wd t) s1 tC (n + 2 - i) ∧ Ev (B_X12_reads_25 (nI n) st pp) s2 tM (n + 2 - i) ∧ RdP tx n tC tM
section RDS
variable {tx : Nat → Int32} {n N : Nat} {cells : Nat → Int32} {rows wd t : Int32} {st : Nat → Int32} {pp : Int32} {i : Nat} {f : Nat → Int32} {c dg fd nb op du : Int32} {w : Nat → Int32} {h mop whole : Int32} {step : Nat → Int32} {steps waiting : Int32} {waits wth : Nat → Int32}
theorem CS (H : RdH tx n N cells rows wd t st pp) (hi : i < n) {f' : Nat → Int32} {c' dg' fa' fd' nb' op' du' : Int32} {w' : Nat → Int32} {h' : Int32} (hk : F_X7_take f c dg (-1) fd nb op du w h (nI i) (tx i) = some (f', c', dg', fa', fd', nb', op', du', w', h')) : B_X7_read_40 (nI n) N cells rows wd t (nI i, f, c, dg, -1, fd, nb, op, du, w, h) = some (.inl (nI (i + 1), f', c', dg', fa', fd', nb', op', du', w', h')) := by
  unfold B_X7_read_40
  dsimp only
  rw [if_pos (nI_lt hi (by have := H.1; omega)), if_pos rfl]
  refine sbind (H.2.1 i hi) (sbind hk ?_)
  rw [lt_eq, nI_1]
theorem CO {ii fa : Int32} (h0 : fa ≠ -1 ∨ ¬ ii < nI n) : B_X7_read_40 (nI n) N cells rows wd t (ii, f, c, dg, fa, fd, nb, op, du, w, h) = some (.inr (ii, f, c, dg, fa, fd, nb, op, du, w, h)) := by
  unfold B_X7_read_40
  dsimp only
  by_cases hl : ii < nI n
  · rw [if_pos hl, if_neg (by rcases h0 with z | z; exact z; exact absurd hl z)]
  · rw [if_neg hl]
theorem RdF_step {s1' : CT} {s2' : MT} {s1 : CT} {s2 : MT} (hi : i < n) (h1 : B_X7_read_40 (nI n) N cells rows wd t s1 = some (.inl s1')) (h2 : B_X12_reads_25 (nI n) st pp s2 = some (.inl s2')) (k : RdF tx n N cells rows wd t st pp s1' s2' (i + 1)) : RdF tx n N cells rows wd t st pp s1 s2 i := by
  obtain ⟨tC, tM, a, b, e⟩ := k
  exact ⟨tC, tM, Ev_in h1 a (by omega), Ev_in h2 b (by omega), e⟩
theorem RdF_fault {s1 : CT} {s2 : MT} {ii f' c' dg' fa' fd' nb' op' du' w' h'} {z : MF} (hi : i < n) (h1 : B_X7_read_40 (nI n) N cells rows wd t s1 = some (.inl (ii, f', c', dg', fa', fd', nb', op', du', w', h'))) (hf : fa' ≠ -1) (h2 : B_X12_reads_25 (nI n) st pp s2 = some (.inr (.inr z))) (hz : z.1 = fa') : RdF tx n N cells rows wd t st pp s1 s2 i := by
  refine ⟨_, _, Ev_in h1 (Ev_out (b := 1) (CO (Or.inl hf)) (Nat.le_refl _)) (by omega), Ev_out h2 (by omega), Or.inl ⟨fa', hf, rfl, z, rfl, hz⟩⟩
theorem flt_ne {i k : Nat} (h : i < 1000) (hk : k < 10) : nI 10 * nI i + nI k ≠ -1 := by
  rw [pk_mul, nI_add]
  intro e
  have := nI_toInt (n := 10 * i + k) (by omega)
  rw [e, show ((-1 : Int32)).toInt = -1 from rfl] at this
  omega
theorem flt1 {i : Nat} (h : i < 1000) : 10 * nI i + 1 ≠ -1 := flt_ne (k := 1) h (by omega)
theorem flt2 {i : Nat} (h : i < 1000) : 10 * nI i + 2 ≠ -1 := flt_ne (k := 2) h (by omega)
theorem flt3 {i : Nat} (h : i < 1000) : 10 * nI i + 3 ≠ -1 := flt_ne (k := 3) h (by omega)
/-- a unit comes: the model puts it down and settles what stood ahead of it -/
theorem UNI {f step wth waits : Nat → Int32} {g : Nat → Sg} {c h : Nat} {x a b : Int32} (hm : mlo waits g h) (hk : KD f step wth c (wsm g h)) (hb : c + 1 + h ≤ 50) (hC : ∀ f2 step2 wth2 : Nat → Int32, f2 c = x → step2 c = a → wth2 c = b → CK f2 step2 wth2 c (wsm g h) (wsm g h + 1)) :
    ∃ (step2 wth2 : Nat → Int32) (q : Nat), popw (pM 6) g h = q ∧ q ≤ h ∧ F_X12_emits step (nI c) wth a b = some (upd step c a, nI (c + 1), upd wth c b) ∧ F_X12_settles (upd step c a) (nI (c + 1)) (nI h) waits (upd wth c b) 6 = some (step2, nI (c + 1 + (h - q)), nI q, wth2) ∧ mlo waits g q ∧ KD (upd f c x) step2 wth2 (c + 1) (wsm g h + 1) ∧ ∀ j, j < h - q → step2 (c + 1 + j) = nI (g (h - 1 - j)).ms := by
  obtain ⟨q, hq⟩ : ∃ q, popw (pM 6) g h = q := ⟨_, rfl⟩
  have hle : q ≤ h := by rw [← hq]; exact popw_le _ _ _
  refine ⟨emit (upd step c a) (c + 1) (fun j => nI (g (h - 1 - j)).ms) (h - q), emit (upd wth c b) (c + 1) z0 (h - q), q, hq, hle, M_emits (by omega), ?_, mlo_le hm hle, ⟨_, KD_frame (fun k hk => ⟨pk_un (by omega), ?_, ?_⟩) hk, hC _ _ _ pk_us ?_ ?_⟩, fun j hj => emit_in hj⟩
  · rw [show (6 : Int32) = nI 6 from rfl, M_settles (t := 6) hm (by omega) (by omega), hq]
  · rw [emit_out (by omega), pk_un (by omega)]
  · rw [emit_out (by omega), pk_un (by omega)]
  · rw [emit_out (by omega), pk_us]
  · rw [emit_out (by omega), pk_us]
/-- a sign waits -/
theorem clo_p {w : Nat → Int32} {g : Nat → Sg} {h : Nat} {s : Sg} {x : Int32} (hw : clo w g h) (hx : x = nI s.cs) : clo (upd w h x) (va_up g h s) (h + 1) := by
  intro k hk
  by_cases e : k = h
  · subst e; rw [pk_us, vu_s]; exact hx
  · rw [pk_un e, vu_n e]; exact hw k (by omega)
theorem mlo_p {w : Nat → Int32} {g : Nat → Sg} {h : Nat} {s : Sg} {x : Int32} (hw : mlo w g h) (hx : x = nI s.ms) : mlo (upd w h x) (va_up g h s) (h + 1) := by
  intro k hk
  by_cases e : k = h
  · subst e; rw [pk_us, vu_s]; exact hx
  · rw [pk_un e, vu_n e]; exact hw k (by omega)
theorem wsm_f {g : Nat → Sg} {s : Sg} {h : Nat} : ∀ {q : Nat}, q ≤ h → wsm (va_up g h s) q = wsm g q
  | 0, _ => rfl
  | q + 1, hq => by
    show wsm (va_up g h s) q + (va_up g h s q).wt = wsm g q + (g q).wt
    rw [wsm_f (by omega), vu_n (by omega)]
theorem wsm_p {g : Nat → Sg} {s : Sg} {h : Nat} : wsm (va_up g h s) (h + 1) = wsm g h + s.wt := by
  show wsm (va_up g h s) h + (va_up g h s h).wt = _
  rw [wsm_f (Nat.le_refl _), vu_s]
theorem nOp_f {g : Nat → Sg} {s : Sg} {h : Nat} : ∀ {q : Nat}, q ≤ h → nOp (va_up g h s) q = nOp g q
  | 0, _ => rfl
  | q + 1, hq => by
    show nOp (va_up g h s) q + (if va_up g h s q = Sg.op then 1 else 0) = nOp g q + (if g q = Sg.op then 1 else 0)
    rw [nOp_f (by omega), vu_n (by omega)]
theorem nOp_p {g : Nat → Sg} {s : Sg} {h : Nat} : nOp (va_up g h s) (h + 1) = nOp g h + (if s = Sg.op then 1 else 0) := by
  show nOp (va_up g h s) h + (if va_up g h s h = Sg.op then 1 else 0) = _
  rw [nOp_f (Nat.le_refl _), vu_s]
theorem nOp_q {g : Nat → Sg} {q : Nat} : ∀ {h : Nat}, q ≤ h → (∀ k, q ≤ k → k < h → g k ≠ Sg.op ∧ g k ≠ Sg.as) → nOp g h = nOp g q
  | 0, h1, _ => by rw [show q = 0 by omega]
  | h + 1, h1, h2 => by
    by_cases e : q = h + 1
    · rw [e]
    · show nOp g h + _ = _
      rw [if_neg (h2 h (by omega) (by omega)).1, nOp_q (by omega) (fun k a b => h2 k a (by omega))]; rfl
theorem nOp_0 {g : Nat → Sg} : ∀ {h : Nat}, nOp g h = 0 → ∀ k, k < h → g k ≠ Sg.op
  | 0, _, k, hk => absurd hk (Nat.not_lt_zero _)
  | h + 1, h1, k, hk => by
    have h2 : nOp g h + (if g h = Sg.op then 1 else 0) = 0 := h1
    by_cases e : k = h
    · subst e
      intro z
      rw [if_pos z] at h2; omega
    · exact nOp_0 (h := h) (by omega) k (by omega)
theorem Shp_p {g : Nat → Sg} {s : Sg} {h : Nat} (hS : Shp g h) (hs : s = Sg.as ∨ s = Sg.el → h = 0 ∨ (g (h - 1)).hd = 0) : Shp (va_up g h s) (h + 1) := by
  intro k hk hx
  by_cases e : k + 1 = h
  · rw [e, vu_s] at hx
    rw [vu_n (by omega)]
    rcases hs hx with z | z
    · omega
    · rw [show k = h - 1 by omega]; exact z
  · rw [vu_n (by omega)] at hx
    rw [vu_n (by omega)]
    exact hS k (by omega) hx
end RDS
