/-! PURE WORDS: what a method computes, as a function that may have no answer (an index out of its row, a divisor 0, a loop that does not end) -/
def FU : Nat := 1000000000000
def lt {α β : Type} (e : α) (K : α → Option β) : Option β := K e
def gI (f : Nat → Int32) (n : Nat) (i : Int32) : Option Int32 := if 0 ≤ i.toInt ∧ i.toInt < n then some (f i.toNatClampNeg) else none
def gL (f : Nat → Int64) (n : Nat) (i : Int32) : Option Int64 := if 0 ≤ i.toInt ∧ i.toInt < n then some (f i.toNatClampNeg) else none
def sI (f : Nat → Int32) (n : Nat) (i x : Int32) : Option (Nat → Int32) := if 0 ≤ i.toInt ∧ i.toInt < n then some (upd f i.toNatClampNeg x) else none
def sL (f : Nat → Int64) (n : Nat) (i : Int32) (x : Int64) : Option (Nat → Int64) := if 0 ≤ i.toInt ∧ i.toInt < n then some (vp_updL f i.toNatClampNeg x) else none
def sZ (f : Nat → Int32) (n : Nat) (i x : Int32) : Option (Nat → Int32) := if 0 ≤ i.toInt ∧ i.toInt < n then some (upd f i.toNatClampNeg (vp_nar .boolean x)) else none
def bZ (x : Int32) : Option Int32 := if x = 0 ∨ x = 1 then some x else none
def qI (x y : Int32) : Option Int32 := if y = 0 then none else some (x / y)
def mI (x y : Int32) : Option Int32 := if y = 0 then none else some (x - x / y * y)
def qL (x y : Int64) : Option Int64 := if y = 0 then none else some (x / y)
def mL (x y : Int64) : Option Int64 := if y = 0 then none else some (x - x / y * y)
def itr {S T : Type} (f : S → Option (S ⊕ T)) : Nat → S → Option T
  | 0, _ => none
  | n + 1, s => Option.bind (f s) (fun o => match o with | .inl s' => itr f n s' | .inr r => some r)
def sm {S Z G : Type} (x : S ⊕ Z) (K : S → Option G) (W : Z → G) : Option G := match x with | .inl y => K y | .inr z => some (W z)
theorem sm_l {S Z G : Type} {y : S} {K : S → Option G} {W : Z → G} {r : G} (h : sm (.inl y) K W = some r) : K y = some r := h
theorem sm_r {S Z G : Type} {z : Z} {K : S → Option G} {W : Z → G} {r : G} (h : sm (.inr z) K W = some r) : some (W z) = some r := h
theorem lt_eq {α β : Type} (e : α) (K : α → Option β) : lt e K = K e := rfl
theorem bnd {α β : Type} {a : Option α} {K : α → Option β} {r : β} (h : Option.bind a K = some r) : ∃ x, a = some x ∧ K x = some r := by
  cases a with
  | none => cases h
  | some x => exact ⟨x, rfl, h⟩
theorem bnd' {α β γ : Type} {a : Option α} {K : α → Option β} {r : β} {P : Prop} (h : Option.bind a K = some r) (k : ∀ x, a = some x → K x = some r → P) : P := by
  obtain ⟨x, h1, h2⟩ := bnd h
  exact k x h1 h2
theorem gI_in {f : Nat → Int32} {n : Nat} {i x : Int32} (h : gI f n i = some x) : vp_in i n ∧ f i.toNatClampNeg = x := by
  unfold gI at h
  split at h
  · exact ⟨vp_in_iff.mpr (by assumption), Option.some.inj h⟩
  · cases h
theorem gL_in {f : Nat → Int64} {n : Nat} {i : Int32} {x : Int64} (h : gL f n i = some x) : vp_in i n ∧ f i.toNatClampNeg = x := by
  unfold gL at h
  split at h
  · exact ⟨vp_in_iff.mpr (by assumption), Option.some.inj h⟩
  · cases h
theorem sI_in {f g : Nat → Int32} {n : Nat} {i x : Int32} (h : sI f n i x = some g) : vp_in i n ∧ upd f i.toNatClampNeg x = g := by
  unfold sI at h
  split at h
  · exact ⟨vp_in_iff.mpr (by assumption), Option.some.inj h⟩
  · cases h
theorem sL_in {f g : Nat → Int64} {n : Nat} {i : Int32} {x : Int64} (h : sL f n i x = some g) : vp_in i n ∧ vp_updL f i.toNatClampNeg x = g := by
  unfold sL at h
  split at h
  · exact ⟨vp_in_iff.mpr (by assumption), Option.some.inj h⟩
  · cases h
theorem sZ_in {f g : Nat → Int32} {n : Nat} {i x : Int32} (h : sZ f n i x = some g) : vp_in i n ∧ upd f i.toNatClampNeg (vp_nar .boolean x) = g := by
  unfold sZ at h
  split at h
  · exact ⟨vp_in_iff.mpr (by assumption), Option.some.inj h⟩
  · cases h
/-! THE KIT LAYER: a walk's place as one judgement, its heap, frame and locals inside -/
def ii_usual : Nat → Int32 := fun k => if k = 0 then 5 else if k = 1 then 30 else 100
def ii_most : Nat → Int32 := fun k => if k = 0 then 100 else if k = 1 then 1000 else 200
def ii_Z (A : Nat → Prop) (U : State) (H : Heap) : Prop := ∃ t1 t2 : Nat, va_Z "TinHouse$Law" "USUAL" "[I" (.ref t1) A U H ∧ va_T .int t1 3 (fun k => .int (ii_usual k)) A U H ∧ va_Z "TinHouse$Law" "MOST" "[I" (.ref t2) A U H ∧ va_T .int t2 3 (fun k => .int (ii_most k)) A U H
theorem ii_Z.go {A B : Nat → Prop} {u U : State} {H H1 : Heap} (h : ii_Z A u H) (hvm : u.vm.Alike U.vm) (hAB : ∀ q, B q → A q) (hq : ∀ a : Nat, a < H.size → ¬ A a → H1[a]? = H[a]?) : ii_Z B U H1 := by
  obtain ⟨t1, t2, h1, h2, h3, h4⟩ := h
  exact ⟨t1, t2, ((h1.kept hq).moved hvm).narrow hAB, ((h2.kept hq).moved hvm).narrow hAB, ((h3.kept hq).moved hvm).narrow hAB, ((h4.kept hq).moved hvm).narrow hAB⟩
theorem ii_D {A : Nat → Prop} {ws ws2 : va_W} (h : va_D A ws) (e : ws2.map (fun q => q.1) = ws.map (fun q => q.1)) : va_D A ws2 := by
  have key : ∀ (k : Nat) (q : Nat × va_E), ws2[k]? = some q → ∃ q0, ws[k]? = some q0 ∧ q0.1 = q.1 := by
    intro k q hk
    have h1 : (ws2.map (fun q => q.1))[k]? = some q.1 := by rw [List.getElem?_map, hk]; rfl
    rw [e, List.getElem?_map] at h1
    cases h2 : ws[k]? with
    | none => rw [h2] at h1; cases h1
    | some q0 => rw [h2] at h1; exact ⟨q0, rfl, Option.some.inj h1⟩
  refine ⟨fun i j x y hi hj hxy => ?_, fun k q hk => ?_⟩
  · obtain ⟨x0, h1, h2⟩ := key i x hi
    obtain ⟨y0, h3, h4⟩ := key j y hj
    exact h.1 i j x0 y0 h1 h3 (h2.trans (hxy.trans h4.symm))
  · obtain ⟨q0, h1, h2⟩ := key k q hk
    rw [← h2]
    exact h.2 k q0 h1
def ii_pt : va_W → List Nat → va_W → va_W
  | ws, i :: is, q :: qs => ii_pt (ws.set i q) is qs
  | ws, _, _ => ws
theorem ii_pt_at : ∀ (is : List Nat) (qs ws : va_W), va_nd is = true → is.length = qs.length → ∀ (k : Nat) (q : Nat × va_E), (ii_pt ws is qs)[k]? = some q → (∃ j : Nat, is[j]? = some k ∧ qs[j]? = some q) ∨ (k ∉ is ∧ ws[k]? = some q)
  | [], qs, ws, _, hl, k, q, h => by
    cases qs with
    | nil => exact Or.inr ⟨List.not_mem_nil, h⟩
    | cons a b => cases hl
  | i :: is, [], ws, _, hl, k, q, h => by cases hl
  | i :: is, c :: qs, ws, hn, hl, k, q, h => by
    simp only [va_nd, Bool.and_eq_true, decide_eq_true_eq] at hn
    rcases ii_pt_at is qs (ws.set i c) hn.2 (Nat.succ.inj hl) k q h with ⟨j, h1, h2⟩ | ⟨h1, h2⟩
    · exact Or.inl ⟨j + 1, h1, h2⟩
    · by_cases hk : k = i
      · subst hk
        by_cases hlt : k < ws.length
        · rw [List.getElem?_set_self hlt] at h2
          exact Or.inl ⟨0, rfl, h2⟩
        · rw [List.getElem?_eq_none (by rw [List.length_set]; omega)] at h2
          cases h2
      · rw [List.getElem?_set_ne (Ne.symm hk)] at h2
        exact Or.inr ⟨fun z => (List.mem_cons.mp z).elim hk h1, h2⟩
/-- behind a call: the callee's cells at their old places, all others unchanged -/
theorem ii_putP {A0 : Nat → Prop} {D : va_G} {cl : List vw_C} {ws wc w1 : va_W} {H H1 : Heap} (hP : va_P D cl ws H) (hD : va_D A0 ws) (isC : List Nat) (hC : isC.map (fun i => ws[i]?) = wc.map some) (hn : va_nd isC = true) (hl : w1.map (fun q => q.1) = wc.map (fun q => q.1))
    (hk : ∀ q : Nat, q < H.size → ¬ va_A wc H.size q → H1[q]? = H[q]?) (hP1 : va_P D cl w1 H1) : va_P D cl (ii_pt ws isC w1) H1 := by
  have hlen : isC.length = w1.length := by
    have a := congrArg List.length hC
    have b := congrArg List.length hl
    simp only [List.length_map] at a b
    omega
  intro k q hq
  rcases ii_pt_at isC w1 ws hn hlen k q hq with ⟨j, h1, h2⟩ | ⟨h1, h2⟩
  · exact hP1 j q h2
  · have hlt := (hP k q h2).lt
    refine (hP k q h2).kept (hk q.1 hlt (fun h => ?_))
    rcases h with ⟨k2, e, h⟩ | h
    · have h3 : (isC.map (fun i => ws[i]?))[k2]? = some (some (q.1, e)) := by rw [hC, List.getElem?_map, h]; rfl
      rw [List.getElem?_map] at h3
      cases hi : isC[k2]? with
      | none => rw [hi] at h3; cases h3
      | some i =>
        rw [hi] at h3
        have h4 : ws[i]? = some (q.1, e) := Option.some.inj h3
        have hij := hD.1 k i q (q.1, e) h2 h4 rfl
        subst hij
        exact h1 (List.mem_of_getElem? hi)
    · omega
def ii_Cx (p : Program) (s : State) (m : MethodId) (args : Array Value) (meth : Method) (c : Code) (cc : ByteArray) (own : String) (Ts : List Cond) (D : va_G) (tys : List (ClassId × FieldType)) (A : Nat → Prop) (nL : Nat) : Prop :=
  p.tables.exec = Jvm.exec ∧ c.code = cc ∧ c.maxLocals = nL ∧ s.vm.findClass own = some m.cls ∧ (∀ w ∈ Ts, w.before args s = true) ∧ va_K D vwCl tys s ∧ meth.locks = false ∧ (∀ q, s.heap.size ≤ q → A q) ∧ ii_Z A s s.heap
def WX (p : Program) (l : Launch) (e : Env) (R : Room) (s : State) (m : MethodId) (args : Array Value) (below : List Frame) (meth : Method) (c : Code) (cc : ByteArray) (own : String) (Ts : List Cond) (D : va_G) (tys : List (ClassId × FieldType)) (A : Nat → Prop) (nL cells slots : Nat) (Q : State → Prop) (ws : va_W) (pc : Nat) (lv : List (Nat × Value)) (st : List Value) : Prop :=
  ii_Cx p s m args meth c cc own Ts D tys A nL → ∀ (H : Heap) (locs : List Loc) (ls : Array Slot), va_P D vwCl ws H → va_D A ws → va_S A s.heap H locs → lv_has ls nL lv → W p l e R s m args below meth c H locs cells slots Q (F0 m pc ls st)
def ii_lvs (lv : List (Nat × Value)) (i : Nat) (v : Value) : List (Nat × Value) := (i, v) :: lv.filter (fun q => !(q.1 == i) && !(q.1 + 1 == i && q.2.category == 2))
def ii_lvs2 (lv : List (Nat × Value)) (i : Nat) (v : Value) : List (Nat × Value) := (i, v) :: lv.filter (fun q => !(q.1 == i) && (!(q.1 == i + 1) && !(q.1 + 1 == i && q.2.category == 2)))
theorem ii_nlt {x y : Int32} (h : y ≤ x) : ¬ x < y := by
  rw [Int32.lt_iff_toInt_lt]; rw [Int32.le_iff_toInt_le] at h; omega
theorem ii_nle {x y : Int32} (h : ¬ y ≤ x) : x < y := by
  rw [Int32.lt_iff_toInt_lt]; rw [Int32.le_iff_toInt_le] at h; omega
theorem ii_cm (x y : Int64) : (y < x ∧ lg_cmp x y = 1) ∨ (x = y ∧ lg_cmp x y = 0) ∨ (x < y ∧ lg_cmp x y = -1) := by
  by_cases h1 : y < x
  · exact Or.inl ⟨h1, by simp [lg_cmp, h1]⟩
  · by_cases h2 : x = y
    · subst h2
      exact Or.inr (Or.inl ⟨rfl, by simp [lg_cmp]⟩)
    · refine Or.inr (Or.inr ⟨?_, by simp [lg_cmp, h1, h2]⟩)
      rw [Int64.lt_iff_toInt_lt] at h1 ⊢
      have h3 : ¬ x.toInt = y.toInt := fun z => h2 (Int64.toInt_inj.mp z)
      omega
theorem ii_l3 {x y : Int64} (h : x < y) : ¬ y < x ∧ ¬ x = y := by
  rw [Int64.lt_iff_toInt_lt] at h
  refine ⟨fun z => ?_, fun z => ?_⟩
  · rw [Int64.lt_iff_toInt_lt] at z; omega
  · subst z; omega
theorem ii_ceq {x y : Int64} : lg_cmp x y = 0 ↔ x = y := by
  rcases ii_cm x y with ⟨a, b⟩ | ⟨a, b⟩ | ⟨a, b⟩ <;> rw [b]
  · exact ⟨fun z => absurd z (by decide), fun z => absurd z.symm (ii_l3 a).2⟩
  · exact ⟨fun _ => a, fun _ => rfl⟩
  · exact ⟨fun z => absurd z (by decide), fun z => absurd z (ii_l3 a).2⟩
theorem ii_cne {x y : Int64} : (¬ lg_cmp x y = 0) ↔ ¬ x = y := not_congr ii_ceq
theorem ii_clt {x y : Int64} : lg_cmp x y < 0 ↔ x < y := by
  rcases ii_cm x y with ⟨a, b⟩ | ⟨a, b⟩ | ⟨a, b⟩ <;> rw [b]
  · exact ⟨fun z => absurd z (by decide), fun z => absurd z (ii_l3 a).1⟩
  · subst a
    exact ⟨fun z => absurd z (by decide), fun z => absurd z (fun q => (ii_l3 q).1 q)⟩
  · exact ⟨fun _ => a, fun _ => by decide⟩
theorem ii_cgt {x y : Int64} : 0 < lg_cmp x y ↔ y < x := by
  rcases ii_cm x y with ⟨a, b⟩ | ⟨a, b⟩ | ⟨a, b⟩ <;> rw [b]
  · exact ⟨fun _ => a, fun _ => by decide⟩
  · subst a
    exact ⟨fun z => absurd z (by decide), fun z => absurd z (fun q => (ii_l3 q).1 q)⟩
  · exact ⟨fun z => absurd z (by decide), fun z => absurd z (ii_l3 a).1⟩
theorem ii_cge {x y : Int64} : 0 ≤ lg_cmp x y ↔ ¬ x < y := by
  rcases ii_cm x y with ⟨a, b⟩ | ⟨a, b⟩ | ⟨a, b⟩ <;> rw [b]
  · exact ⟨fun _ => (ii_l3 a).1, fun _ => by decide⟩
  · subst a
    exact ⟨fun _ => fun q => (ii_l3 q).1 q, fun _ => by decide⟩
  · exact ⟨fun z => absurd z (by decide), fun z => absurd a z⟩
theorem ii_cle {x y : Int64} : lg_cmp x y ≤ 0 ↔ ¬ y < x := by
  rcases ii_cm x y with ⟨a, b⟩ | ⟨a, b⟩ | ⟨a, b⟩ <;> rw [b]
  · exact ⟨fun z => absurd z (by decide), fun z => absurd a z⟩
  · subst a
    exact ⟨fun _ => fun q => (ii_l3 q).1 q, fun _ => by decide⟩
  · exact ⟨fun _ => (ii_l3 a).1, fun _ => by decide⟩
section II
variable {p : Program} {l : Launch} {e : Env} {R : Room} {s : State} {m : MethodId} {args : Array Value} {below : List Frame} {meth : Method} {c : Code} {cc : ByteArray} {own : String} {Ts : List Cond} {D : va_G} {tys : List (ClassId × FieldType)} {A : Nat → Prop} {nL cells slots : Nat} {Q : State → Prop} {ws : va_W} {pc : Nat} {lv lv' : List (Nat × Value)} {st : List Value}
theorem ii_iconst {n : Int} {v : Int32} (d : decode cc pc = .ok (.iconst n, 1)) (hv : Int32.ofInt n = v) (k : WX p l e R s m args below meth c cc own Ts D tys A nL cells slots Q ws (pc + 1) lv (.int v :: st)) : WX p l e R s m args below meth c cc own Ts D tys A nL cells slots Q ws pc lv st := by
  intro C H locs ls hP hD hS hl
  obtain ⟨hx, hb, hml, hown, hts, hK, hlk, hA, hZ⟩ := id C
  exact lv_iconst hx hb d hv (k C H locs ls hP hD hS hl)
theorem ii_bipush {n : Int} {v : Int32} (d : decode cc pc = .ok (.bipush n, 2)) (hv : (Int8.ofInt n).toInt32 = v) (k : WX p l e R s m args below meth c cc own Ts D tys A nL cells slots Q ws (pc + 2) lv (.int v :: st)) : WX p l e R s m args below meth c cc own Ts D tys A nL cells slots Q ws pc lv st := by
  intro C H locs ls hP hD hS hl
  obtain ⟨hx, hb, hml, hown, hts, hK, hlk, hA, hZ⟩ := id C
  exact lv_bipush hx hb d hv (k C H locs ls hP hD hS hl)
theorem ii_sipush {n : Int} {v : Int32} (d : decode cc pc = .ok (.sipush n, 3)) (hv : (Int16.ofInt n).toInt32 = v) (k : WX p l e R s m args below meth c cc own Ts D tys A nL cells slots Q ws (pc + 3) lv (.int v :: st)) : WX p l e R s m args below meth c cc own Ts D tys A nL cells slots Q ws pc lv st := by
  intro C H locs ls hP hD hS hl
  obtain ⟨hx, hb, hml, hown, hts, hK, hlk, hA, hZ⟩ := id C
  exact lv_sipush hx hb d hv (k C H locs ls hP hD hS hl)
theorem ii_ldc {i : Nat} {v : Int32} (d : decode cc pc = .ok (.ldc i, 2)) (hc : Cond.constant own i v ∈ Ts) (k : WX p l e R s m args below meth c cc own Ts D tys A nL cells slots Q ws (pc + 2) lv (.int v :: st)) : WX p l e R s m args below meth c cc own Ts D tys A nL cells slots Q ws pc lv st := by
  intro C H locs ls hP hD hS hl
  obtain ⟨hx, hb, hml, hown, hts, hK, hlk, hA, hZ⟩ := id C
  exact lv_ldc hx hb hown (hts _ hc) d (k C H locs ls hP hD hS hl)
theorem ii_ldcw {i : Nat} {v : Int32} (d : decode cc pc = .ok (.ldc_w i, 3)) (hc : Cond.constant own i v ∈ Ts) (k : WX p l e R s m args below meth c cc own Ts D tys A nL cells slots Q ws (pc + 3) lv (.int v :: st)) : WX p l e R s m args below meth c cc own Ts D tys A nL cells slots Q ws pc lv st := by
  intro C H locs ls hP hD hS hl
  obtain ⟨hx, hb, hml, hown, hts, hK, hlk, hA, hZ⟩ := id C
  exact lv_ldcw hx hb hown (hts _ hc) d (k C H locs ls hP hD hS hl)
theorem ii_lconst {n : Fin 2} {v : Int64} (d : decode cc pc = .ok (.lconst n, 1)) (hv : Int64.ofNat (n : Nat) = v) (k : WX p l e R s m args below meth c cc own Ts D tys A nL cells slots Q ws (pc + 1) lv (.long v :: st)) : WX p l e R s m args below meth c cc own Ts D tys A nL cells slots Q ws pc lv st := by
  intro C H locs ls hP hD hS hl
  obtain ⟨hx, hb, hml, hown, hts, hK, hlk, hA, hZ⟩ := id C
  exact lv_lconst hx hb d hv (k C H locs ls hP hD hS hl)
theorem ii_ldc2 {i : Nat} {v : Int64} (d : decode cc pc = .ok (.ldc2_w i, 3)) (hc : Cond.constantLong own i v ∈ Ts) (k : WX p l e R s m args below meth c cc own Ts D tys A nL cells slots Q ws (pc + 3) lv (.long v :: st)) : WX p l e R s m args below meth c cc own Ts D tys A nL cells slots Q ws pc lv st := by
  intro C H locs ls hP hD hS hl
  obtain ⟨hx, hb, hml, hown, hts, hK, hlk, hA, hZ⟩ := id C
  exact lv_ldc2 hx hb hown (hts _ hc) d (k C H locs ls hP hD hS hl)
theorem ii_iload_n {k : Fin 4} {x : Int32} (j : Nat) (d : decode cc pc = .ok (.iload_n k, 1)) (h : lv[j]? = some ((k : Nat), .int x)) (k : WX p l e R s m args below meth c cc own Ts D tys A nL cells slots Q ws (pc + 1) lv (.int x :: st)) : WX p l e R s m args below meth c cc own Ts D tys A nL cells slots Q ws pc lv st := by
  intro C H locs ls hP hD hS hl
  obtain ⟨hx, hb, hml, hown, hts, hK, hlk, hA, hZ⟩ := id C
  exact lv_iload_n hx hb d rfl (lv_at hl j h) (k C H locs ls hP hD hS hl)
theorem ii_iload {i : Nat} {x : Int32} (j : Nat) (d : decode cc pc = .ok (.iload i, 2)) (h : lv[j]? = some (i, .int x)) (k : WX p l e R s m args below meth c cc own Ts D tys A nL cells slots Q ws (pc + 2) lv (.int x :: st)) : WX p l e R s m args below meth c cc own Ts D tys A nL cells slots Q ws pc lv st := by
  intro C H locs ls hP hD hS hl
  obtain ⟨hx, hb, hml, hown, hts, hK, hlk, hA, hZ⟩ := id C
  exact lv_iload hx hb d (lv_at hl j h) (k C H locs ls hP hD hS hl)
theorem ii_istore_n {q : Fin 4} {i : Nat} {x : Int32} (d : decode cc pc = .ok (.istore_n q, 1)) (hi : (q : Nat) = i) (hn : i < nL) (h : ii_lvs lv i (.int x) = lv') (k : WX p l e R s m args below meth c cc own Ts D tys A nL cells slots Q ws (pc + 1) lv' st) : WX p l e R s m args below meth c cc own Ts D tys A nL cells slots Q ws pc lv (.int x :: st) := by
  intro C H locs ls hP hD hS hl
  obtain ⟨hx, hb, hml, hown, hts, hK, hlk, hA, hZ⟩ := id C
  exact lv_istore_n hx hb d hi hl hn h (fun ls hl => k C H locs ls hP hD hS hl)
theorem ii_istore {i : Nat} {x : Int32} (d : decode cc pc = .ok (.istore i, 2)) (hn : i < nL) (h : ii_lvs lv i (.int x) = lv') (k : WX p l e R s m args below meth c cc own Ts D tys A nL cells slots Q ws (pc + 2) lv' st) : WX p l e R s m args below meth c cc own Ts D tys A nL cells slots Q ws pc lv (.int x :: st) := by
  intro C H locs ls hP hD hS hl
  obtain ⟨hx, hb, hml, hown, hts, hK, hlk, hA, hZ⟩ := id C
  exact lv_istore hx hb d hl hn h (fun ls hl => k C H locs ls hP hD hS hl)
theorem ii_lload_n {k : Fin 4} {x : Int64} (j : Nat) (d : decode cc pc = .ok (.lload_n k, 1)) (h : lv[j]? = some ((k : Nat), .long x)) (k : WX p l e R s m args below meth c cc own Ts D tys A nL cells slots Q ws (pc + 1) lv (.long x :: st)) : WX p l e R s m args below meth c cc own Ts D tys A nL cells slots Q ws pc lv st := by
  intro C H locs ls hP hD hS hl
  obtain ⟨hx, hb, hml, hown, hts, hK, hlk, hA, hZ⟩ := id C
  exact lv_lload_n hx hb d rfl (lv_at hl j h) (k C H locs ls hP hD hS hl)
theorem ii_lload {i : Nat} {x : Int64} (j : Nat) (d : decode cc pc = .ok (.lload i, 2)) (h : lv[j]? = some (i, .long x)) (k : WX p l e R s m args below meth c cc own Ts D tys A nL cells slots Q ws (pc + 2) lv (.long x :: st)) : WX p l e R s m args below meth c cc own Ts D tys A nL cells slots Q ws pc lv st := by
  intro C H locs ls hP hD hS hl
  obtain ⟨hx, hb, hml, hown, hts, hK, hlk, hA, hZ⟩ := id C
  exact lv_lload hx hb d (lv_at hl j h) (k C H locs ls hP hD hS hl)
theorem ii_lstore_n {q : Fin 4} {i : Nat} {x : Int64} (d : decode cc pc = .ok (.lstore_n q, 1)) (hi : (q : Nat) = i) (hn : i + 1 < nL) (h : ii_lvs2 lv i (.long x) = lv') (k : WX p l e R s m args below meth c cc own Ts D tys A nL cells slots Q ws (pc + 1) lv' st) : WX p l e R s m args below meth c cc own Ts D tys A nL cells slots Q ws pc lv (.long x :: st) := by
  intro C H locs ls hP hD hS hl
  obtain ⟨hx, hb, hml, hown, hts, hK, hlk, hA, hZ⟩ := id C
  exact lv_lstore_n hx hb d hi hl hn h (fun ls hl => k C H locs ls hP hD hS hl)
theorem ii_lstore {i : Nat} {x : Int64} (d : decode cc pc = .ok (.lstore i, 2)) (hn : i + 1 < nL) (h : ii_lvs2 lv i (.long x) = lv') (k : WX p l e R s m args below meth c cc own Ts D tys A nL cells slots Q ws (pc + 2) lv' st) : WX p l e R s m args below meth c cc own Ts D tys A nL cells slots Q ws pc lv (.long x :: st) := by
  intro C H locs ls hP hD hS hl
  obtain ⟨hx, hb, hml, hown, hts, hK, hlk, hA, hZ⟩ := id C
  exact lv_lstore hx hb d hl hn h (fun ls hl => k C H locs ls hP hD hS hl)
theorem ii_aload_n {k : Fin 4} {x : Nat} (j : Nat) (d : decode cc pc = .ok (.aload_n k, 1)) (h : lv[j]? = some ((k : Nat), .ref x)) (k : WX p l e R s m args below meth c cc own Ts D tys A nL cells slots Q ws (pc + 1) lv (.ref x :: st)) : WX p l e R s m args below meth c cc own Ts D tys A nL cells slots Q ws pc lv st := by
  intro C H locs ls hP hD hS hl
  obtain ⟨hx, hb, hml, hown, hts, hK, hlk, hA, hZ⟩ := id C
  exact lv_aload_n hx hb d rfl (lv_at hl j h) (k C H locs ls hP hD hS hl)
theorem ii_aload {i : Nat} {x : Nat} (j : Nat) (d : decode cc pc = .ok (.aload i, 2)) (h : lv[j]? = some (i, .ref x)) (k : WX p l e R s m args below meth c cc own Ts D tys A nL cells slots Q ws (pc + 2) lv (.ref x :: st)) : WX p l e R s m args below meth c cc own Ts D tys A nL cells slots Q ws pc lv st := by
  intro C H locs ls hP hD hS hl
  obtain ⟨hx, hb, hml, hown, hts, hK, hlk, hA, hZ⟩ := id C
  exact lv_aload hx hb d (lv_at hl j h) (k C H locs ls hP hD hS hl)
theorem ii_astore_n {q : Fin 4} {i : Nat} {x : Nat} (d : decode cc pc = .ok (.astore_n q, 1)) (hi : (q : Nat) = i) (hn : i < nL) (h : ii_lvs lv i (.ref x) = lv') (k : WX p l e R s m args below meth c cc own Ts D tys A nL cells slots Q ws (pc + 1) lv' st) : WX p l e R s m args below meth c cc own Ts D tys A nL cells slots Q ws pc lv (.ref x :: st) := by
  intro C H locs ls hP hD hS hl
  obtain ⟨hx, hb, hml, hown, hts, hK, hlk, hA, hZ⟩ := id C
  exact lv_astore_n hx hb d hi hl hn h (fun ls hl => k C H locs ls hP hD hS hl)
theorem ii_astore {i : Nat} {x : Nat} (d : decode cc pc = .ok (.astore i, 2)) (hn : i < nL) (h : ii_lvs lv i (.ref x) = lv') (k : WX p l e R s m args below meth c cc own Ts D tys A nL cells slots Q ws (pc + 2) lv' st) : WX p l e R s m args below meth c cc own Ts D tys A nL cells slots Q ws pc lv (.ref x :: st) := by
  intro C H locs ls hP hD hS hl
  obtain ⟨hx, hb, hml, hown, hts, hK, hlk, hA, hZ⟩ := id C
  exact lv_astore hx hb d hl hn h (fun ls hl => k C H locs ls hP hD hS hl)
theorem ii_iinc {α : Type} {r : α} {i : Nat} {n : Int} {x w : Int32} {K : Int32 → Option α} (lf : Int32 → List (Nat × Value)) (h : lt (x + w) K = some r) (j : Nat) (d : decode cc pc = .ok (.iinc i n, 3)) (hj : lv[j]? = some (i, .int x)) (hv : Int32.ofInt n = w) (hn : i < nL) (hl2 : ∀ z, ii_lvs lv i (.int z) = lf z) (k : ∀ z, K z = some r → WX p l e R s m args below meth c cc own Ts D tys A nL cells slots Q ws (pc + 3) (lf z) st) : WX p l e R s m args below meth c cc own Ts D tys A nL cells slots Q ws pc lv st := by
  intro C H locs ls hP hD hS hl
  obtain ⟨hx, hb, hml, hown, hts, hK, hlk, hA, hZ⟩ := id C
  exact lv_iinc hx hb d hl hj (by rw [hv]) hn (hl2 (x + w)) (fun ls hl => k _ h C H locs ls hP hD hS hl)
theorem ii_iadd {x y : Int32} (d : decode cc pc = .ok (.iadd, 1)) (k : WX p l e R s m args below meth c cc own Ts D tys A nL cells slots Q ws (pc + 1) lv (.int (x + y) :: st)) : WX p l e R s m args below meth c cc own Ts D tys A nL cells slots Q ws pc lv (.int y :: .int x :: st) := by
  intro C H locs ls hP hD hS hl
  obtain ⟨hx, hb, hml, hown, hts, hK, hlk, hA, hZ⟩ := id C
  exact lv_iadd hx hb d (k C H locs ls hP hD hS hl)
theorem ii_isub {x y : Int32} (d : decode cc pc = .ok (.isub, 1)) (k : WX p l e R s m args below meth c cc own Ts D tys A nL cells slots Q ws (pc + 1) lv (.int (x - y) :: st)) : WX p l e R s m args below meth c cc own Ts D tys A nL cells slots Q ws pc lv (.int y :: .int x :: st) := by
  intro C H locs ls hP hD hS hl
  obtain ⟨hx, hb, hml, hown, hts, hK, hlk, hA, hZ⟩ := id C
  exact lv_isub hx hb d (k C H locs ls hP hD hS hl)
theorem ii_imul {x y : Int32} (d : decode cc pc = .ok (.imul, 1)) (k : WX p l e R s m args below meth c cc own Ts D tys A nL cells slots Q ws (pc + 1) lv (.int (x * y) :: st)) : WX p l e R s m args below meth c cc own Ts D tys A nL cells slots Q ws pc lv (.int y :: .int x :: st) := by
  intro C H locs ls hP hD hS hl
  obtain ⟨hx, hb, hml, hown, hts, hK, hlk, hA, hZ⟩ := id C
  exact lv_imul hx hb d (k C H locs ls hP hD hS hl)
theorem ii_iand {x y : Int32} (d : decode cc pc = .ok (.iand, 1)) (k : WX p l e R s m args below meth c cc own Ts D tys A nL cells slots Q ws (pc + 1) lv (.int (x &&& y) :: st)) : WX p l e R s m args below meth c cc own Ts D tys A nL cells slots Q ws pc lv (.int y :: .int x :: st) := by
  intro C H locs ls hP hD hS hl
  obtain ⟨hx, hb, hml, hown, hts, hK, hlk, hA, hZ⟩ := id C
  exact lv_iand hx hb d (k C H locs ls hP hD hS hl)
theorem ii_ior {x y : Int32} (d : decode cc pc = .ok (.ior, 1)) (k : WX p l e R s m args below meth c cc own Ts D tys A nL cells slots Q ws (pc + 1) lv (.int (x ||| y) :: st)) : WX p l e R s m args below meth c cc own Ts D tys A nL cells slots Q ws pc lv (.int y :: .int x :: st) := by
  intro C H locs ls hP hD hS hl
  obtain ⟨hx, hb, hml, hown, hts, hK, hlk, hA, hZ⟩ := id C
  exact lv_ior hx hb d (k C H locs ls hP hD hS hl)
theorem ii_ixor {x y : Int32} (d : decode cc pc = .ok (.ixor, 1)) (k : WX p l e R s m args below meth c cc own Ts D tys A nL cells slots Q ws (pc + 1) lv (.int (x ^^^ y) :: st)) : WX p l e R s m args below meth c cc own Ts D tys A nL cells slots Q ws pc lv (.int y :: .int x :: st) := by
  intro C H locs ls hP hD hS hl
  obtain ⟨hx, hb, hml, hown, hts, hK, hlk, hA, hZ⟩ := id C
  exact lv_ixor hx hb d (k C H locs ls hP hD hS hl)
theorem ii_ishl {x y : Int32} (d : decode cc pc = .ok (.ishl, 1)) (k : WX p l e R s m args below meth c cc own Ts D tys A nL cells slots Q ws (pc + 1) lv (.int (x <<< (y &&& 31)) :: st)) : WX p l e R s m args below meth c cc own Ts D tys A nL cells slots Q ws pc lv (.int y :: .int x :: st) := by
  intro C H locs ls hP hD hS hl
  obtain ⟨hx, hb, hml, hown, hts, hK, hlk, hA, hZ⟩ := id C
  exact lv_ishl hx hb d (k C H locs ls hP hD hS hl)
theorem ii_ishr {x y : Int32} (d : decode cc pc = .ok (.ishr, 1)) (k : WX p l e R s m args below meth c cc own Ts D tys A nL cells slots Q ws (pc + 1) lv (.int (x >>> (y &&& 31)) :: st)) : WX p l e R s m args below meth c cc own Ts D tys A nL cells slots Q ws pc lv (.int y :: .int x :: st) := by
  intro C H locs ls hP hD hS hl
  obtain ⟨hx, hb, hml, hown, hts, hK, hlk, hA, hZ⟩ := id C
  exact lv_ishr hx hb d (k C H locs ls hP hD hS hl)
theorem ii_iushr {x y : Int32} (d : decode cc pc = .ok (.iushr, 1)) (k : WX p l e R s m args below meth c cc own Ts D tys A nL cells slots Q ws (pc + 1) lv (.int ((x.toUInt32 >>> (y.toUInt32 &&& Int32.toUInt32 31)).toInt32) :: st)) : WX p l e R s m args below meth c cc own Ts D tys A nL cells slots Q ws pc lv (.int y :: .int x :: st) := by
  intro C H locs ls hP hD hS hl
  obtain ⟨hx, hb, hml, hown, hts, hK, hlk, hA, hZ⟩ := id C
  exact lv_iushr hx hb d rfl (k C H locs ls hP hD hS hl)
theorem ii_ineg {x : Int32} (d : decode cc pc = .ok (.ineg, 1)) (k : WX p l e R s m args below meth c cc own Ts D tys A nL cells slots Q ws (pc + 1) lv (.int (-x) :: st)) : WX p l e R s m args below meth c cc own Ts D tys A nL cells slots Q ws pc lv (.int x :: st) := by
  intro C H locs ls hP hD hS hl
  obtain ⟨hx, hb, hml, hown, hts, hK, hlk, hA, hZ⟩ := id C
  exact lv_ineg hx hb d (k C H locs ls hP hD hS hl)
theorem ii_ladd {x y : Int64} (d : decode cc pc = .ok (.ladd, 1)) (k : WX p l e R s m args below meth c cc own Ts D tys A nL cells slots Q ws (pc + 1) lv (.long (x + y) :: st)) : WX p l e R s m args below meth c cc own Ts D tys A nL cells slots Q ws pc lv (.long y :: .long x :: st) := by
  intro C H locs ls hP hD hS hl
  obtain ⟨hx, hb, hml, hown, hts, hK, hlk, hA, hZ⟩ := id C
  exact lv_ladd hx hb d (k C H locs ls hP hD hS hl)
theorem ii_lsub {x y : Int64} (d : decode cc pc = .ok (.lsub, 1)) (k : WX p l e R s m args below meth c cc own Ts D tys A nL cells slots Q ws (pc + 1) lv (.long (x - y) :: st)) : WX p l e R s m args below meth c cc own Ts D tys A nL cells slots Q ws pc lv (.long y :: .long x :: st) := by
  intro C H locs ls hP hD hS hl
  obtain ⟨hx, hb, hml, hown, hts, hK, hlk, hA, hZ⟩ := id C
  exact lv_lsub hx hb d (k C H locs ls hP hD hS hl)
theorem ii_lmul {x y : Int64} (d : decode cc pc = .ok (.lmul, 1)) (k : WX p l e R s m args below meth c cc own Ts D tys A nL cells slots Q ws (pc + 1) lv (.long (x * y) :: st)) : WX p l e R s m args below meth c cc own Ts D tys A nL cells slots Q ws pc lv (.long y :: .long x :: st) := by
  intro C H locs ls hP hD hS hl
  obtain ⟨hx, hb, hml, hown, hts, hK, hlk, hA, hZ⟩ := id C
  exact lv_lmul hx hb d (k C H locs ls hP hD hS hl)
theorem ii_land {x y : Int64} (d : decode cc pc = .ok (.land, 1)) (k : WX p l e R s m args below meth c cc own Ts D tys A nL cells slots Q ws (pc + 1) lv (.long (x &&& y) :: st)) : WX p l e R s m args below meth c cc own Ts D tys A nL cells slots Q ws pc lv (.long y :: .long x :: st) := by
  intro C H locs ls hP hD hS hl
  obtain ⟨hx, hb, hml, hown, hts, hK, hlk, hA, hZ⟩ := id C
  exact lv_land hx hb d (k C H locs ls hP hD hS hl)
theorem ii_lor {x y : Int64} (d : decode cc pc = .ok (.lor, 1)) (k : WX p l e R s m args below meth c cc own Ts D tys A nL cells slots Q ws (pc + 1) lv (.long (x ||| y) :: st)) : WX p l e R s m args below meth c cc own Ts D tys A nL cells slots Q ws pc lv (.long y :: .long x :: st) := by
  intro C H locs ls hP hD hS hl
  obtain ⟨hx, hb, hml, hown, hts, hK, hlk, hA, hZ⟩ := id C
  exact lv_lor hx hb d (k C H locs ls hP hD hS hl)
theorem ii_lneg {x : Int64} (d : decode cc pc = .ok (.lneg, 1)) (k : WX p l e R s m args below meth c cc own Ts D tys A nL cells slots Q ws (pc + 1) lv (.long (-x) :: st)) : WX p l e R s m args below meth c cc own Ts D tys A nL cells slots Q ws pc lv (.long x :: st) := by
  intro C H locs ls hP hD hS hl
  obtain ⟨hx, hb, hml, hown, hts, hK, hlk, hA, hZ⟩ := id C
  exact lv_lneg hx hb d (k C H locs ls hP hD hS hl)
theorem ii_lshl {x : Int64} {y : Int32} (d : decode cc pc = .ok (.lshl, 1)) (k : WX p l e R s m args below meth c cc own Ts D tys A nL cells slots Q ws (pc + 1) lv (.long (x <<< (y.toInt64 &&& 63)) :: st)) : WX p l e R s m args below meth c cc own Ts D tys A nL cells slots Q ws pc lv (.int y :: .long x :: st) := by
  intro C H locs ls hP hD hS hl
  obtain ⟨hx, hb, hml, hown, hts, hK, hlk, hA, hZ⟩ := id C
  exact lv_lshl hx hb d rfl (k C H locs ls hP hD hS hl)
theorem ii_i2l {x : Int32} (d : decode cc pc = .ok (.i2l, 1)) (k : WX p l e R s m args below meth c cc own Ts D tys A nL cells slots Q ws (pc + 1) lv (.long x.toInt64 :: st)) : WX p l e R s m args below meth c cc own Ts D tys A nL cells slots Q ws pc lv (.int x :: st) := by
  intro C H locs ls hP hD hS hl
  obtain ⟨hx, hb, hml, hown, hts, hK, hlk, hA, hZ⟩ := id C
  exact lv_i2l hx hb d rfl (k C H locs ls hP hD hS hl)
theorem ii_l2i {x : Int64} (d : decode cc pc = .ok (.l2i, 1)) (k : WX p l e R s m args below meth c cc own Ts D tys A nL cells slots Q ws (pc + 1) lv (.int x.toInt32 :: st)) : WX p l e R s m args below meth c cc own Ts D tys A nL cells slots Q ws pc lv (.long x :: st) := by
  intro C H locs ls hP hD hS hl
  obtain ⟨hx, hb, hml, hown, hts, hK, hlk, hA, hZ⟩ := id C
  exact lv_l2i hx hb d rfl (k C H locs ls hP hD hS hl)
theorem ii_idiv {α : Type} {r : α} {x y : Int32} {K : Int32 → Option α} (h : Option.bind (qI x y) K = some r) (d : decode cc pc = .ok (.idiv, 1)) (k : ∀ z : Int32, K z = some r → WX p l e R s m args below meth c cc own Ts D tys A nL cells slots Q ws (pc + 1) lv (.int z :: st)) : WX p l e R s m args below meth c cc own Ts D tys A nL cells slots Q ws pc lv (.int y :: .int x :: st) := by
  intro C H locs ls hP hD hS hl
  obtain ⟨hx, hb, hml, hown, hts, hK, hlk, hA, hZ⟩ := id C
  obtain ⟨z, h1, h2⟩ := bnd h
  unfold qI at h1
  split at h1
  · cases h1
  · rename_i hne
    have h3 := Option.some.inj h1
    subst h3
    exact lv_idiv hx hb d hne (k _ h2 C H locs ls hP hD hS hl)
theorem ii_irem {α : Type} {r : α} {x y : Int32} {K : Int32 → Option α} (h : Option.bind (mI x y) K = some r) (d : decode cc pc = .ok (.irem, 1)) (k : ∀ z : Int32, K z = some r → WX p l e R s m args below meth c cc own Ts D tys A nL cells slots Q ws (pc + 1) lv (.int z :: st)) : WX p l e R s m args below meth c cc own Ts D tys A nL cells slots Q ws pc lv (.int y :: .int x :: st) := by
  intro C H locs ls hP hD hS hl
  obtain ⟨hx, hb, hml, hown, hts, hK, hlk, hA, hZ⟩ := id C
  obtain ⟨z, h1, h2⟩ := bnd h
  unfold mI at h1
  split at h1
  · cases h1
  · rename_i hne
    have h3 := Option.some.inj h1
    subst h3
    exact lv_irem hx hb d hne (k _ h2 C H locs ls hP hD hS hl)
theorem ii_ldiv {α : Type} {r : α} {x y : Int64} {K : Int64 → Option α} (h : Option.bind (qL x y) K = some r) (d : decode cc pc = .ok (.ldiv, 1)) (k : ∀ z : Int64, K z = some r → WX p l e R s m args below meth c cc own Ts D tys A nL cells slots Q ws (pc + 1) lv (.long z :: st)) : WX p l e R s m args below meth c cc own Ts D tys A nL cells slots Q ws pc lv (.long y :: .long x :: st) := by
  intro C H locs ls hP hD hS hl
  obtain ⟨hx, hb, hml, hown, hts, hK, hlk, hA, hZ⟩ := id C
  obtain ⟨z, h1, h2⟩ := bnd h
  unfold qL at h1
  split at h1
  · cases h1
  · rename_i hne
    have h3 := Option.some.inj h1
    subst h3
    exact lv_ldiv hx hb d hne (k _ h2 C H locs ls hP hD hS hl)
theorem ii_lrem {α : Type} {r : α} {x y : Int64} {K : Int64 → Option α} (h : Option.bind (mL x y) K = some r) (d : decode cc pc = .ok (.lrem, 1)) (k : ∀ z : Int64, K z = some r → WX p l e R s m args below meth c cc own Ts D tys A nL cells slots Q ws (pc + 1) lv (.long z :: st)) : WX p l e R s m args below meth c cc own Ts D tys A nL cells slots Q ws pc lv (.long y :: .long x :: st) := by
  intro C H locs ls hP hD hS hl
  obtain ⟨hx, hb, hml, hown, hts, hK, hlk, hA, hZ⟩ := id C
  obtain ⟨z, h1, h2⟩ := bnd h
  unfold mL at h1
  split at h1
  · cases h1
  · rename_i hne
    have h3 := Option.some.inj h1
    subst h3
    exact lv_lrem hx hb d hne (k _ h2 C H locs ls hP hD hS hl)
theorem ii_topI {α : Type} {r : α} {x : Int32} {K : Int32 → Option α} (h : lt x K = some r) (k : ∀ z : Int32, K z = some r → WX p l e R s m args below meth c cc own Ts D tys A nL cells slots Q ws pc lv (.int z :: st)) : WX p l e R s m args below meth c cc own Ts D tys A nL cells slots Q ws pc lv (.int x :: st) := k x h
theorem ii_topL {α : Type} {r : α} {x : Int64} {K : Int64 → Option α} (h : lt x K = some r) (k : ∀ z : Int64, K z = some r → WX p l e R s m args below meth c cc own Ts D tys A nL cells slots Q ws pc lv (.long z :: st)) : WX p l e R s m args below meth c cc own Ts D tys A nL cells slots Q ws pc lv (.long x :: st) := k x h
theorem ii_dup {a : Value} (d : decode cc pc = .ok (.dup, 1)) (ha : a.category = 1) (k : WX p l e R s m args below meth c cc own Ts D tys A nL cells slots Q ws (pc + 1) lv (a :: a :: st)) : WX p l e R s m args below meth c cc own Ts D tys A nL cells slots Q ws pc lv (a :: st) := by
  intro C H locs ls hP hD hS hl
  obtain ⟨hx, hb, hml, hown, hts, hK, hlk, hA, hZ⟩ := id C
  exact lv_dup hx hb d ha (k C H locs ls hP hD hS hl)
theorem ii_dup2 {a b : Value} (d : decode cc pc = .ok (.dup2, 1)) (ha : a.category = 1) (hb2 : b.category = 1) (k : WX p l e R s m args below meth c cc own Ts D tys A nL cells slots Q ws (pc + 1) lv (a :: b :: a :: b :: st)) : WX p l e R s m args below meth c cc own Ts D tys A nL cells slots Q ws pc lv (a :: b :: st) := by
  intro C H locs ls hP hD hS hl
  obtain ⟨hx, hb, hml, hown, hts, hK, hlk, hA, hZ⟩ := id C
  exact lv_dup2_11 hx hb d ha hb2 (k C H locs ls hP hD hS hl)
theorem ii_pop {a : Value} (d : decode cc pc = .ok (.pop, 1)) (ha : a.category = 1) (k : WX p l e R s m args below meth c cc own Ts D tys A nL cells slots Q ws (pc + 1) lv st) : WX p l e R s m args below meth c cc own Ts D tys A nL cells slots Q ws pc lv (a :: st) := by
  intro C H locs ls hP hD hS hl
  obtain ⟨hx, hb, hml, hown, hts, hK, hlk, hA, hZ⟩ := id C
  exact lv_pop hx hb d ha (k C H locs ls hP hD hS hl)
theorem ii_pop2 {a : Value} (d : decode cc pc = .ok (.pop2, 1)) (ha : a.category = 2) (k : WX p l e R s m args below meth c cc own Ts D tys A nL cells slots Q ws (pc + 1) lv st) : WX p l e R s m args below meth c cc own Ts D tys A nL cells slots Q ws pc lv (a :: st) := by
  intro C H locs ls hP hD hS hl
  obtain ⟨hx, hb, hml, hown, hts, hK, hlk, hA, hZ⟩ := id C
  exact lv_pop2_2 hx hb d ha (k C H locs ls hP hD hS hl)
theorem ii_goto {off : Int} {tgt : Nat} (d : decode cc pc = .ok (.goto off, 3)) (ht : (pc : Int) + off = (tgt : Int)) (k : WX p l e R s m args below meth c cc own Ts D tys A nL cells slots Q ws tgt lv st) : WX p l e R s m args below meth c cc own Ts D tys A nL cells slots Q ws pc lv st := by
  intro C H locs ls hP hD hS hl
  obtain ⟨hx, hb, hml, hown, hts, hK, hlk, hA, hZ⟩ := id C
  exact lv_goto hx hb d ht (k C H locs ls hP hD hS hl)
theorem ii_if_eq {α : Type} {r : α} {x : Int32} {off : Int} {tgt : Nat} {ET EF : Option α} (h : (if x = 0 then ET else EF) = some r) (d : decode cc pc = .ok (.ifCond .eq off, 3)) (ht : (pc : Int) + off = (tgt : Int)) (kt : ET = some r → WX p l e R s m args below meth c cc own Ts D tys A nL cells slots Q ws tgt lv st) (kf : EF = some r → WX p l e R s m args below meth c cc own Ts D tys A nL cells slots Q ws (pc + 3) lv st) : WX p l e R s m args below meth c cc own Ts D tys A nL cells slots Q ws pc lv (.int x :: st) := by
  intro C H locs ls hP hD hS hl
  obtain ⟨hx, hb, hml, hown, hts, hK, hlk, hA, hZ⟩ := id C
  exact lv_if_eq hx hb d ht (fun q => kt (by rw [if_pos q] at h; exact h) C H locs ls hP hD hS hl) (fun q => kf (by rw [if_neg (fun z => q z)] at h; exact h) C H locs ls hP hD hS hl)
theorem ii_icmp_eq {α : Type} {r : α} {x y : Int32} {off : Int} {tgt : Nat} {ET EF : Option α} (h : (if x = y then ET else EF) = some r) (d : decode cc pc = .ok (.if_icmp .eq off, 3)) (ht : (pc : Int) + off = (tgt : Int)) (kt : ET = some r → WX p l e R s m args below meth c cc own Ts D tys A nL cells slots Q ws tgt lv st) (kf : EF = some r → WX p l e R s m args below meth c cc own Ts D tys A nL cells slots Q ws (pc + 3) lv st) : WX p l e R s m args below meth c cc own Ts D tys A nL cells slots Q ws pc lv (.int y :: .int x :: st) := by
  intro C H locs ls hP hD hS hl
  obtain ⟨hx, hb, hml, hown, hts, hK, hlk, hA, hZ⟩ := id C
  exact lv_icmp_eq hx hb d ht (fun q => kt (by rw [if_pos q] at h; exact h) C H locs ls hP hD hS hl) (fun q => kf (by rw [if_neg (fun z => q z)] at h; exact h) C H locs ls hP hD hS hl)
theorem ii_lcmp_eq {α : Type} {r : α} {x y : Int64} {off : Int} {tgt : Nat} {ET EF : Option α} (h : (if x = y then ET else EF) = some r) (d : decode cc pc = .ok (.lcmp, 1)) (d2 : decode cc (pc + 1) = .ok (.ifCond .eq off, 3)) (ht : ((pc + 1 : Nat) : Int) + off = (tgt : Int)) (kt : ET = some r → WX p l e R s m args below meth c cc own Ts D tys A nL cells slots Q ws tgt lv st) (kf : EF = some r → WX p l e R s m args below meth c cc own Ts D tys A nL cells slots Q ws (pc + 4) lv st) : WX p l e R s m args below meth c cc own Ts D tys A nL cells slots Q ws pc lv (.long y :: .long x :: st) := by
  intro C H locs ls hP hD hS hl
  obtain ⟨hx, hb, hml, hown, hts, hK, hlk, hA, hZ⟩ := id C
  refine W.lcmp hx hb d (lv_if_eq hx hb d2 ht (fun q => ?_) (fun q => ?_))
  · exact kt (by rw [if_pos (ii_ceq.mp q)] at h; exact h) C H locs ls hP hD hS hl
  · exact kf (by rw [if_neg (fun z => q (ii_ceq.mpr z))] at h; exact h) C H locs ls hP hD hS hl
theorem ii_if_ne {α : Type} {r : α} {x : Int32} {off : Int} {tgt : Nat} {ET EF : Option α} (h : (if x = 0 then EF else ET) = some r) (d : decode cc pc = .ok (.ifCond .ne off, 3)) (ht : (pc : Int) + off = (tgt : Int)) (kt : ET = some r → WX p l e R s m args below meth c cc own Ts D tys A nL cells slots Q ws tgt lv st) (kf : EF = some r → WX p l e R s m args below meth c cc own Ts D tys A nL cells slots Q ws (pc + 3) lv st) : WX p l e R s m args below meth c cc own Ts D tys A nL cells slots Q ws pc lv (.int x :: st) := by
  intro C H locs ls hP hD hS hl
  obtain ⟨hx, hb, hml, hown, hts, hK, hlk, hA, hZ⟩ := id C
  exact lv_if_ne hx hb d ht (fun q => kt (by rw [if_neg (fun z => q z)] at h; exact h) C H locs ls hP hD hS hl) (fun q => kf (by rw [if_pos q] at h; exact h) C H locs ls hP hD hS hl)
theorem ii_icmp_ne {α : Type} {r : α} {x y : Int32} {off : Int} {tgt : Nat} {ET EF : Option α} (h : (if x = y then EF else ET) = some r) (d : decode cc pc = .ok (.if_icmp .ne off, 3)) (ht : (pc : Int) + off = (tgt : Int)) (kt : ET = some r → WX p l e R s m args below meth c cc own Ts D tys A nL cells slots Q ws tgt lv st) (kf : EF = some r → WX p l e R s m args below meth c cc own Ts D tys A nL cells slots Q ws (pc + 3) lv st) : WX p l e R s m args below meth c cc own Ts D tys A nL cells slots Q ws pc lv (.int y :: .int x :: st) := by
  intro C H locs ls hP hD hS hl
  obtain ⟨hx, hb, hml, hown, hts, hK, hlk, hA, hZ⟩ := id C
  exact lv_icmp_ne hx hb d ht (fun q => kt (by rw [if_neg (fun z => q z)] at h; exact h) C H locs ls hP hD hS hl) (fun q => kf (by rw [if_pos q] at h; exact h) C H locs ls hP hD hS hl)
theorem ii_lcmp_ne {α : Type} {r : α} {x y : Int64} {off : Int} {tgt : Nat} {ET EF : Option α} (h : (if x = y then EF else ET) = some r) (d : decode cc pc = .ok (.lcmp, 1)) (d2 : decode cc (pc + 1) = .ok (.ifCond .ne off, 3)) (ht : ((pc + 1 : Nat) : Int) + off = (tgt : Int)) (kt : ET = some r → WX p l e R s m args below meth c cc own Ts D tys A nL cells slots Q ws tgt lv st) (kf : EF = some r → WX p l e R s m args below meth c cc own Ts D tys A nL cells slots Q ws (pc + 4) lv st) : WX p l e R s m args below meth c cc own Ts D tys A nL cells slots Q ws pc lv (.long y :: .long x :: st) := by
  intro C H locs ls hP hD hS hl
  obtain ⟨hx, hb, hml, hown, hts, hK, hlk, hA, hZ⟩ := id C
  refine W.lcmp hx hb d (lv_if_ne hx hb d2 ht (fun q => ?_) (fun q => ?_))
  · exact kt (by rw [if_neg (ii_cne.mp q)] at h; exact h) C H locs ls hP hD hS hl
  · exact kf (by rw [if_pos (ii_ceq.mp q)] at h; exact h) C H locs ls hP hD hS hl
theorem ii_if_lt {α : Type} {r : α} {x : Int32} {off : Int} {tgt : Nat} {ET EF : Option α} (h : (if x < 0 then ET else EF) = some r) (d : decode cc pc = .ok (.ifCond .lt off, 3)) (ht : (pc : Int) + off = (tgt : Int)) (kt : ET = some r → WX p l e R s m args below meth c cc own Ts D tys A nL cells slots Q ws tgt lv st) (kf : EF = some r → WX p l e R s m args below meth c cc own Ts D tys A nL cells slots Q ws (pc + 3) lv st) : WX p l e R s m args below meth c cc own Ts D tys A nL cells slots Q ws pc lv (.int x :: st) := by
  intro C H locs ls hP hD hS hl
  obtain ⟨hx, hb, hml, hown, hts, hK, hlk, hA, hZ⟩ := id C
  exact lv_if_lt hx hb d ht (fun q => kt (by rw [if_pos q] at h; exact h) C H locs ls hP hD hS hl) (fun q => kf (by rw [if_neg (fun z => q z)] at h; exact h) C H locs ls hP hD hS hl)
theorem ii_icmp_lt {α : Type} {r : α} {x y : Int32} {off : Int} {tgt : Nat} {ET EF : Option α} (h : (if x < y then ET else EF) = some r) (d : decode cc pc = .ok (.if_icmp .lt off, 3)) (ht : (pc : Int) + off = (tgt : Int)) (kt : ET = some r → WX p l e R s m args below meth c cc own Ts D tys A nL cells slots Q ws tgt lv st) (kf : EF = some r → WX p l e R s m args below meth c cc own Ts D tys A nL cells slots Q ws (pc + 3) lv st) : WX p l e R s m args below meth c cc own Ts D tys A nL cells slots Q ws pc lv (.int y :: .int x :: st) := by
  intro C H locs ls hP hD hS hl
  obtain ⟨hx, hb, hml, hown, hts, hK, hlk, hA, hZ⟩ := id C
  exact lv_icmp_lt hx hb d ht (fun q => kt (by rw [if_pos q] at h; exact h) C H locs ls hP hD hS hl) (fun q => kf (by rw [if_neg (fun z => q z)] at h; exact h) C H locs ls hP hD hS hl)
theorem ii_lcmp_lt {α : Type} {r : α} {x y : Int64} {off : Int} {tgt : Nat} {ET EF : Option α} (h : (if x < y then ET else EF) = some r) (d : decode cc pc = .ok (.lcmp, 1)) (d2 : decode cc (pc + 1) = .ok (.ifCond .lt off, 3)) (ht : ((pc + 1 : Nat) : Int) + off = (tgt : Int)) (kt : ET = some r → WX p l e R s m args below meth c cc own Ts D tys A nL cells slots Q ws tgt lv st) (kf : EF = some r → WX p l e R s m args below meth c cc own Ts D tys A nL cells slots Q ws (pc + 4) lv st) : WX p l e R s m args below meth c cc own Ts D tys A nL cells slots Q ws pc lv (.long y :: .long x :: st) := by
  intro C H locs ls hP hD hS hl
  obtain ⟨hx, hb, hml, hown, hts, hK, hlk, hA, hZ⟩ := id C
  refine W.lcmp hx hb d (lv_if_lt hx hb d2 ht (fun q => ?_) (fun q => ?_))
  · exact kt (by rw [if_pos (ii_clt.mp q)] at h; exact h) C H locs ls hP hD hS hl
  · exact kf (by rw [if_neg (fun z => q (ii_clt.mpr z))] at h; exact h) C H locs ls hP hD hS hl
theorem ii_if_ge {α : Type} {r : α} {x : Int32} {off : Int} {tgt : Nat} {ET EF : Option α} (h : (if x < 0 then EF else ET) = some r) (d : decode cc pc = .ok (.ifCond .ge off, 3)) (ht : (pc : Int) + off = (tgt : Int)) (kt : ET = some r → WX p l e R s m args below meth c cc own Ts D tys A nL cells slots Q ws tgt lv st) (kf : EF = some r → WX p l e R s m args below meth c cc own Ts D tys A nL cells slots Q ws (pc + 3) lv st) : WX p l e R s m args below meth c cc own Ts D tys A nL cells slots Q ws pc lv (.int x :: st) := by
  intro C H locs ls hP hD hS hl
  obtain ⟨hx, hb, hml, hown, hts, hK, hlk, hA, hZ⟩ := id C
  exact lv_if_ge hx hb d ht (fun q => kt (by rw [if_neg (ii_nlt q)] at h; exact h) C H locs ls hP hD hS hl) (fun q => kf (by rw [if_pos (ii_nle q)] at h; exact h) C H locs ls hP hD hS hl)
theorem ii_icmp_ge {α : Type} {r : α} {x y : Int32} {off : Int} {tgt : Nat} {ET EF : Option α} (h : (if x < y then EF else ET) = some r) (d : decode cc pc = .ok (.if_icmp .ge off, 3)) (ht : (pc : Int) + off = (tgt : Int)) (kt : ET = some r → WX p l e R s m args below meth c cc own Ts D tys A nL cells slots Q ws tgt lv st) (kf : EF = some r → WX p l e R s m args below meth c cc own Ts D tys A nL cells slots Q ws (pc + 3) lv st) : WX p l e R s m args below meth c cc own Ts D tys A nL cells slots Q ws pc lv (.int y :: .int x :: st) := by
  intro C H locs ls hP hD hS hl
  obtain ⟨hx, hb, hml, hown, hts, hK, hlk, hA, hZ⟩ := id C
  exact lv_icmp_ge hx hb d ht (fun q => kt (by rw [if_neg (ii_nlt q)] at h; exact h) C H locs ls hP hD hS hl) (fun q => kf (by rw [if_pos (ii_nle q)] at h; exact h) C H locs ls hP hD hS hl)
theorem ii_lcmp_ge {α : Type} {r : α} {x y : Int64} {off : Int} {tgt : Nat} {ET EF : Option α} (h : (if x < y then EF else ET) = some r) (d : decode cc pc = .ok (.lcmp, 1)) (d2 : decode cc (pc + 1) = .ok (.ifCond .ge off, 3)) (ht : ((pc + 1 : Nat) : Int) + off = (tgt : Int)) (kt : ET = some r → WX p l e R s m args below meth c cc own Ts D tys A nL cells slots Q ws tgt lv st) (kf : EF = some r → WX p l e R s m args below meth c cc own Ts D tys A nL cells slots Q ws (pc + 4) lv st) : WX p l e R s m args below meth c cc own Ts D tys A nL cells slots Q ws pc lv (.long y :: .long x :: st) := by
  intro C H locs ls hP hD hS hl
  obtain ⟨hx, hb, hml, hown, hts, hK, hlk, hA, hZ⟩ := id C
  refine W.lcmp hx hb d (lv_if_ge hx hb d2 ht (fun q => ?_) (fun q => ?_))
  · exact kt (by rw [if_neg (ii_cge.mp q)] at h; exact h) C H locs ls hP hD hS hl
  · exact kf (by rw [if_pos (Classical.byContradiction (fun z => q (ii_cge.mpr z)))] at h; exact h) C H locs ls hP hD hS hl
theorem ii_if_gt {α : Type} {r : α} {x : Int32} {off : Int} {tgt : Nat} {ET EF : Option α} (h : (if 0 < x then ET else EF) = some r) (d : decode cc pc = .ok (.ifCond .gt off, 3)) (ht : (pc : Int) + off = (tgt : Int)) (kt : ET = some r → WX p l e R s m args below meth c cc own Ts D tys A nL cells slots Q ws tgt lv st) (kf : EF = some r → WX p l e R s m args below meth c cc own Ts D tys A nL cells slots Q ws (pc + 3) lv st) : WX p l e R s m args below meth c cc own Ts D tys A nL cells slots Q ws pc lv (.int x :: st) := by
  intro C H locs ls hP hD hS hl
  obtain ⟨hx, hb, hml, hown, hts, hK, hlk, hA, hZ⟩ := id C
  exact lv_if_gt hx hb d ht (fun q => kt (by rw [if_pos q] at h; exact h) C H locs ls hP hD hS hl) (fun q => kf (by rw [if_neg (fun z => q z)] at h; exact h) C H locs ls hP hD hS hl)
theorem ii_icmp_gt {α : Type} {r : α} {x y : Int32} {off : Int} {tgt : Nat} {ET EF : Option α} (h : (if y < x then ET else EF) = some r) (d : decode cc pc = .ok (.if_icmp .gt off, 3)) (ht : (pc : Int) + off = (tgt : Int)) (kt : ET = some r → WX p l e R s m args below meth c cc own Ts D tys A nL cells slots Q ws tgt lv st) (kf : EF = some r → WX p l e R s m args below meth c cc own Ts D tys A nL cells slots Q ws (pc + 3) lv st) : WX p l e R s m args below meth c cc own Ts D tys A nL cells slots Q ws pc lv (.int y :: .int x :: st) := by
  intro C H locs ls hP hD hS hl
  obtain ⟨hx, hb, hml, hown, hts, hK, hlk, hA, hZ⟩ := id C
  exact lv_icmp_gt hx hb d ht (fun q => kt (by rw [if_pos q] at h; exact h) C H locs ls hP hD hS hl) (fun q => kf (by rw [if_neg (fun z => q z)] at h; exact h) C H locs ls hP hD hS hl)
theorem ii_lcmp_gt {α : Type} {r : α} {x y : Int64} {off : Int} {tgt : Nat} {ET EF : Option α} (h : (if y < x then ET else EF) = some r) (d : decode cc pc = .ok (.lcmp, 1)) (d2 : decode cc (pc + 1) = .ok (.ifCond .gt off, 3)) (ht : ((pc + 1 : Nat) : Int) + off = (tgt : Int)) (kt : ET = some r → WX p l e R s m args below meth c cc own Ts D tys A nL cells slots Q ws tgt lv st) (kf : EF = some r → WX p l e R s m args below meth c cc own Ts D tys A nL cells slots Q ws (pc + 4) lv st) : WX p l e R s m args below meth c cc own Ts D tys A nL cells slots Q ws pc lv (.long y :: .long x :: st) := by
  intro C H locs ls hP hD hS hl
  obtain ⟨hx, hb, hml, hown, hts, hK, hlk, hA, hZ⟩ := id C
  refine W.lcmp hx hb d (lv_if_gt hx hb d2 ht (fun q => ?_) (fun q => ?_))
  · exact kt (by rw [if_pos (ii_cgt.mp q)] at h; exact h) C H locs ls hP hD hS hl
  · exact kf (by rw [if_neg (fun z => q (ii_cgt.mpr z))] at h; exact h) C H locs ls hP hD hS hl
theorem ii_if_le {α : Type} {r : α} {x : Int32} {off : Int} {tgt : Nat} {ET EF : Option α} (h : (if 0 < x then EF else ET) = some r) (d : decode cc pc = .ok (.ifCond .le off, 3)) (ht : (pc : Int) + off = (tgt : Int)) (kt : ET = some r → WX p l e R s m args below meth c cc own Ts D tys A nL cells slots Q ws tgt lv st) (kf : EF = some r → WX p l e R s m args below meth c cc own Ts D tys A nL cells slots Q ws (pc + 3) lv st) : WX p l e R s m args below meth c cc own Ts D tys A nL cells slots Q ws pc lv (.int x :: st) := by
  intro C H locs ls hP hD hS hl
  obtain ⟨hx, hb, hml, hown, hts, hK, hlk, hA, hZ⟩ := id C
  exact lv_if_le hx hb d ht (fun q => kt (by rw [if_neg (ii_nlt q)] at h; exact h) C H locs ls hP hD hS hl) (fun q => kf (by rw [if_pos (ii_nle q)] at h; exact h) C H locs ls hP hD hS hl)
theorem ii_icmp_le {α : Type} {r : α} {x y : Int32} {off : Int} {tgt : Nat} {ET EF : Option α} (h : (if y < x then EF else ET) = some r) (d : decode cc pc = .ok (.if_icmp .le off, 3)) (ht : (pc : Int) + off = (tgt : Int)) (kt : ET = some r → WX p l e R s m args below meth c cc own Ts D tys A nL cells slots Q ws tgt lv st) (kf : EF = some r → WX p l e R s m args below meth c cc own Ts D tys A nL cells slots Q ws (pc + 3) lv st) : WX p l e R s m args below meth c cc own Ts D tys A nL cells slots Q ws pc lv (.int y :: .int x :: st) := by
  intro C H locs ls hP hD hS hl
  obtain ⟨hx, hb, hml, hown, hts, hK, hlk, hA, hZ⟩ := id C
  exact lv_icmp_le hx hb d ht (fun q => kt (by rw [if_neg (ii_nlt q)] at h; exact h) C H locs ls hP hD hS hl) (fun q => kf (by rw [if_pos (ii_nle q)] at h; exact h) C H locs ls hP hD hS hl)
theorem ii_lcmp_le {α : Type} {r : α} {x y : Int64} {off : Int} {tgt : Nat} {ET EF : Option α} (h : (if y < x then EF else ET) = some r) (d : decode cc pc = .ok (.lcmp, 1)) (d2 : decode cc (pc + 1) = .ok (.ifCond .le off, 3)) (ht : ((pc + 1 : Nat) : Int) + off = (tgt : Int)) (kt : ET = some r → WX p l e R s m args below meth c cc own Ts D tys A nL cells slots Q ws tgt lv st) (kf : EF = some r → WX p l e R s m args below meth c cc own Ts D tys A nL cells slots Q ws (pc + 4) lv st) : WX p l e R s m args below meth c cc own Ts D tys A nL cells slots Q ws pc lv (.long y :: .long x :: st) := by
  intro C H locs ls hP hD hS hl
  obtain ⟨hx, hb, hml, hown, hts, hK, hlk, hA, hZ⟩ := id C
  refine W.lcmp hx hb d (lv_if_le hx hb d2 ht (fun q => ?_) (fun q => ?_))
  · exact kt (by rw [if_neg (ii_cle.mp q)] at h; exact h) C H locs ls hP hD hS hl
  · exact kf (by rw [if_pos (Classical.byContradiction (fun z => q (ii_cle.mpr z)))] at h; exact h) C H locs ls hP hD hS hl
theorem ii_topB {α : Type} {r : α} {x : Int32} {K : Int32 → Option α} (h : Option.bind (bZ x) K = some r) (k : ∀ z : Int32, (z = 0 ∨ z = 1) → K z = some r → WX p l e R s m args below meth c cc own Ts D tys A nL cells slots Q ws pc lv (.int z :: st)) : WX p l e R s m args below meth c cc own Ts D tys A nL cells slots Q ws pc lv (.int x :: st) := by
  obtain ⟨z, h1, h2⟩ := bnd h
  unfold bZ at h1
  split at h1
  · rename_i q
    cases h1
    exact k _ q h2
  · cases h1
theorem ii_jn {α V : Type} {r : α} {E : Option V} {K : V → Option α} (h : Option.bind E K = some r) (wf : V → va_W) (lf : V → List (Nat × Value)) (pcJ : Nat) (sf : V → List Value) (kJ : ∀ v, K v = some r → WX p l e R s m args below meth c cc own Ts D tys A nL cells slots Q (wf v) pcJ (lf v) (sf v)) (k : ∀ v, E = some v → WX p l e R s m args below meth c cc own Ts D tys A nL cells slots Q (wf v) pcJ (lf v) (sf v) → WX p l e R s m args below meth c cc own Ts D tys A nL cells slots Q ws pc lv st) : WX p l e R s m args below meth c cc own Ts D tys A nL cells slots Q ws pc lv st := by
  obtain ⟨v, h1, h2⟩ := bnd h
  exact k v h1 (kJ v h2)
theorem ii_jf {α V : Type} {r : α} (F : V → Option α) (wf : V → va_W) (lf : V → List (Nat × Value)) (pcJ : Nat) (sf : V → List Value) (kJ : ∀ v, F v = some r → WX p l e R s m args below meth c cc own Ts D tys A nL cells slots Q (wf v) pcJ (lf v) (sf v)) (k : (∀ v, F v = some r → WX p l e R s m args below meth c cc own Ts D tys A nL cells slots Q (wf v) pcJ (lf v) (sf v)) → WX p l e R s m args below meth c cc own Ts D tys A nL cells slots Q ws pc lv st) : WX p l e R s m args below meth c cc own Ts D tys A nL cells slots Q ws pc lv st := k kJ
theorem ii_sw {α : Type} {r : α} {c0 : Prop} [Decidable c0] {E1 E2 : Option α} (h : (if c0 then E1 else E2) = some r) (k1 : c0 → E1 = some r → WX p l e R s m args below meth c cc own Ts D tys A nL cells slots Q ws pc lv st) (k2 : ¬ c0 → E2 = some r → WX p l e R s m args below meth c cc own Ts D tys A nL cells slots Q ws pc lv st) : WX p l e R s m args below meth c cc own Ts D tys A nL cells slots Q ws pc lv st := by
  by_cases q : c0
  · rw [if_pos q] at h; exact k1 q h
  · rw [if_neg q] at h; exact k2 q h
theorem ii_lookup {dflt : Int} {ps : Array (Int × Int)} {len : Nat} {x : Int32} {off : Int} {tgt : Nat} (d : decode cc pc = .ok (.lookupswitch dflt ps, len)) (hp : (ps.toList.zip (ps.toList.drop 1)).all (fun (a, next) => a.1 < next.1) = true) (ho : Op.lookupswitch.offset ps.toList dflt x.toInt = off) (ht : (pc : Int) + off = (tgt : Int)) (k : WX p l e R s m args below meth c cc own Ts D tys A nL cells slots Q ws tgt lv st) : WX p l e R s m args below meth c cc own Ts D tys A nL cells slots Q ws pc lv (.int x :: st) := by
  intro C H locs ls hP hD hS hl
  obtain ⟨hx, hb, hml, hown, hts, hK, hlk, hA, hZ⟩ := id C
  exact lv_lookup hx hb d hp ho ht (k C H locs ls hP hD hS hl)
theorem ii_tableIn {dflt lo hi : Int} {offs : Array Int} {len : Nat} {x k0 : Int32} {a : Int} {off : Int} {tgt : Nat} (d : decode cc pc = .ok (.tableswitch dflt lo hi offs, len)) (hq : x = k0) (ha : k0.toInt = a) (h1 : ¬ a < lo) (h2 : ¬ hi < a) (ho : offs[(a - lo).toNat]? = some off) (ht : (pc : Int) + off = (tgt : Int)) (k : WX p l e R s m args below meth c cc own Ts D tys A nL cells slots Q ws tgt lv st) : WX p l e R s m args below meth c cc own Ts D tys A nL cells slots Q ws pc lv (.int x :: st) := by
  intro C H locs ls hP hD hS hl
  obtain ⟨hx, hb, hml, hown, hts, hK, hlk, hA, hZ⟩ := id C
  subst hq; subst ha; exact lv_tableIn hx hb d h1 h2 ho ht (k C H locs ls hP hD hS hl)
theorem ii_tableOut {dflt lo hi : Int} {offs : Array Int} {len : Nat} {x : Int32} {tgt : Nat} (d : decode cc pc = .ok (.tableswitch dflt lo hi offs, len)) (h0 : x.toInt < lo ∨ hi < x.toInt) (ht : (pc : Int) + dflt = (tgt : Int)) (k : WX p l e R s m args below meth c cc own Ts D tys A nL cells slots Q ws tgt lv st) : WX p l e R s m args below meth c cc own Ts D tys A nL cells slots Q ws pc lv (.int x :: st) := by
  intro C H locs ls hP hD hS hl
  obtain ⟨hx, hb, hml, hown, hts, hK, hlk, hA, hZ⟩ := id C
  exact lv_tableOut hx hb d h0 ht (k C H locs ls hP hD hS hl)
theorem ii_ifnonnull {x : Nat} {off : Int} {tgt : Nat} (d : decode cc pc = .ok (.ifnonnull off, 3)) (ht : (pc : Int) + off = (tgt : Int)) (k : WX p l e R s m args below meth c cc own Ts D tys A nL cells slots Q ws tgt lv st) : WX p l e R s m args below meth c cc own Ts D tys A nL cells slots Q ws pc lv (.ref x :: st) := by
  intro C H locs ls hP hD hS hl
  obtain ⟨hx, hb, hml, hown, hts, hK, hlk, hA, hZ⟩ := id C
  exact lv_ifnonnull hx hb d ht (k C H locs ls hP hD hS hl)
theorem ii_mmax {idx : Nat} {x y : Int32} (h1 : Cond.methodLink own idx Lib.Math.max.name ∈ Ts) (h2 : Cond.static Lib.Math.max.name ∈ Ts) (h3 : Cond.initialized "java/lang/Math" ∈ Ts) (h4 : Cond.code Lib.Math.max.name Lib.Math.max.code 2 (some .int) ∈ Ts) (hf : 1 ≤ R.frames) (hlo : (st.map fun v => v.category).sum + 13 ≤ R.locals) (hcs : cells ≤ R.cells) (hss : slots ≤ R.slots) (d : decode cc pc = .ok (.invokestatic idx, 3)) (k : WX p l e R s m args below meth c cc own Ts D tys A nL cells slots Q ws (pc + 3) lv (.int (if x < y then y else x) :: st)) : WX p l e R s m args below meth c cc own Ts D tys A nL cells slots Q ws pc lv (.int y :: .int x :: st) := by
  intro C H locs ls hP hD hS hl
  obtain ⟨hx, hb, hml, hown, hts, hK, hlk, hA, hZ⟩ := id C
  exact va_mmax hx hb (hml.trans hl.1.symm) hown (hts _ h1) (hts _ h2) (hts _ h3) (hts _ h4) hf hlo hcs hss d (k C H locs ls hP hD hS hl)
theorem ii_mmin {idx : Nat} {x y : Int32} (h1 : Cond.methodLink own idx Lib.Math.min.name ∈ Ts) (h2 : Cond.static Lib.Math.min.name ∈ Ts) (h3 : Cond.initialized "java/lang/Math" ∈ Ts) (h4 : Cond.code Lib.Math.min.name Lib.Math.min.code 2 (some .int) ∈ Ts) (hf : 1 ≤ R.frames) (hlo : (st.map fun v => v.category).sum + 13 ≤ R.locals) (hcs : cells ≤ R.cells) (hss : slots ≤ R.slots) (d : decode cc pc = .ok (.invokestatic idx, 3)) (k : WX p l e R s m args below meth c cc own Ts D tys A nL cells slots Q ws (pc + 3) lv (.int (if y < x then y else x) :: st)) : WX p l e R s m args below meth c cc own Ts D tys A nL cells slots Q ws pc lv (.int y :: .int x :: st) := by
  intro C H locs ls hP hD hS hl
  obtain ⟨hx, hb, hml, hown, hts, hK, hlk, hA, hZ⟩ := id C
  exact va_mmin hx hb (hml.trans hl.1.symm) hown (hts _ h1) (hts _ h2) (hts _ h3) (hts _ h4) hf hlo hcs hss d (k C H locs ls hP hD hS hl)
theorem ii_mabs {idx : Nat} {x : Int32} (h1 : Cond.methodLink own idx Lib.Math.abs.name ∈ Ts) (h2 : Cond.static Lib.Math.abs.name ∈ Ts) (h3 : Cond.initialized "java/lang/Math" ∈ Ts) (h4 : Cond.code Lib.Math.abs.name Lib.Math.abs.code 1 (some .int) ∈ Ts) (hf : 1 ≤ R.frames) (hlo : (st.map fun v => v.category).sum + 13 ≤ R.locals) (hcs : cells ≤ R.cells) (hss : slots ≤ R.slots) (d : decode cc pc = .ok (.invokestatic idx, 3)) (k : WX p l e R s m args below meth c cc own Ts D tys A nL cells slots Q ws (pc + 3) lv (.int (if 0 ≤ x then x else 0 - x) :: st)) : WX p l e R s m args below meth c cc own Ts D tys A nL cells slots Q ws pc lv (.int x :: st) := by
  intro C H locs ls hP hD hS hl
  obtain ⟨hx, hb, hml, hown, hts, hK, hlk, hA, hZ⟩ := id C
  exact va_mabs hx hb (hml.trans hl.1.symm) hown (hts _ h1) (hts _ h2) (hts _ h3) (hts _ h4) hf hlo hcs hss d (k C H locs ls hP hD hS hl)
theorem ii_mmaxL {idx : Nat} {x y : Int64} (h1 : Cond.methodLink own idx Lib.MathLoose.max_long.x ∈ Ts) (h2 : Cond.static Lib.MathLoose.max_long.x ∈ Ts) (h3 : Cond.initialized "java/lang/Math" ∈ Ts) (h4 : Cond.code Lib.MathLoose.max_long.x Lib.MathLoose.max_long.code 4 (some .long) ∈ Ts) (hf : 1 ≤ R.frames) (hlo : (st.map fun v => v.category).sum + 15 ≤ R.locals) (hcs : cells ≤ R.cells) (hss : slots ≤ R.slots) (d : decode cc pc = .ok (.invokestatic idx, 3)) (k : WX p l e R s m args below meth c cc own Ts D tys A nL cells slots Q ws (pc + 3) lv (.long (if y < x then x else y) :: st)) : WX p l e R s m args below meth c cc own Ts D tys A nL cells slots Q ws pc lv (.long y :: .long x :: st) := by
  intro C H locs ls hP hD hS hl
  obtain ⟨hx, hb, hml, hown, hts, hK, hlk, hA, hZ⟩ := id C
  exact va_mmax_long hx hb (hml.trans hl.1.symm) hown (hts _ h1) (hts _ h2) (hts _ h3) (hts _ h4) hf hlo hcs hss d (k C H locs ls hP hD hS hl)
theorem ii_mminL {idx : Nat} {x y : Int64} (h1 : Cond.methodLink own idx Lib.MathLoose.min_long.x ∈ Ts) (h2 : Cond.static Lib.MathLoose.min_long.x ∈ Ts) (h3 : Cond.initialized "java/lang/Math" ∈ Ts) (h4 : Cond.code Lib.MathLoose.min_long.x Lib.MathLoose.min_long.code 4 (some .long) ∈ Ts) (hf : 1 ≤ R.frames) (hlo : (st.map fun v => v.category).sum + 15 ≤ R.locals) (hcs : cells ≤ R.cells) (hss : slots ≤ R.slots) (d : decode cc pc = .ok (.invokestatic idx, 3)) (k : WX p l e R s m args below meth c cc own Ts D tys A nL cells slots Q ws (pc + 3) lv (.long (if y < x then y else x) :: st)) : WX p l e R s m args below meth c cc own Ts D tys A nL cells slots Q ws pc lv (.long y :: .long x :: st) := by
  intro C H locs ls hP hD hS hl
  obtain ⟨hx, hb, hml, hown, hts, hK, hlk, hA, hZ⟩ := id C
  exact va_mmin_long hx hb (hml.trans hl.1.symm) hown (hts _ h1) (hts _ h2) (hts _ h3) (hts _ h4) hf hlo hcs hss d (k C H locs ls hP hD hS hl)
theorem ii_loopX {S T : Type} {f : S → Option (S ⊕ T)} {r : T} {n : Nat} {i0 : S} (wf : S → va_W) (lf : S → List (Nat × Value)) (wx : T → va_W) (lx : T → List (Nat × Value)) (pcx : Nat) (hl : itr f n i0 = some r) (e1 : wf i0 = ws) (e2 : lf i0 = lv) (kx : WX p l e R s m args below meth c cc own Ts D tys A nL cells slots Q (wx r) pcx (lx r) []) (body : ∀ s0 o, f s0 = some o → (∀ s1, o = .inl s1 → WX p l e R s m args below meth c cc own Ts D tys A nL cells slots Q (wf s1) pc (lf s1) []) → (∀ x, o = .inr x → x = r) → (∀ y, y = r → WX p l e R s m args below meth c cc own Ts D tys A nL cells slots Q (wx y) pcx (lx y) []) → WX p l e R s m args below meth c cc own Ts D tys A nL cells slots Q (wf s0) pc (lf s0) []) : WX p l e R s m args below meth c cc own Ts D tys A nL cells slots Q ws pc lv [] := by
  subst e1; subst e2
  have key : ∀ (n : Nat) (s0 : S), itr f n s0 = some r → WX p l e R s m args below meth c cc own Ts D tys A nL cells slots Q (wf s0) pc (lf s0) [] := by
    intro n
    induction n with
    | zero => intro s0 h; cases h
    | succ n ih =>
      intro s0 h
      obtain ⟨o, h1, h2⟩ := bnd h
      refine body s0 o h1 (fun s1 q => ?_) (fun x q => ?_) (fun y e => by subst e; exact kx)
      · subst q; exact ih s1 h2
      · subst q; exact Option.some.inj h2
  exact key n i0 hl
theorem ii_loopR {S T Z : Type} {f : S → Option (S ⊕ (T ⊕ Z))} {r : T ⊕ Z} {n : Nat} {i0 : S} (wf : S → va_W) (lf : S → List (Nat × Value)) (wx : T → va_W) (lx : T → List (Nat × Value)) (pcx : Nat) (hl : itr f n i0 = some r) (e1 : wf i0 = ws) (e2 : lf i0 = lv) (kx : ∀ y, r = .inl y → WX p l e R s m args below meth c cc own Ts D tys A nL cells slots Q (wx y) pcx (lx y) []) (body : ∀ s0 o, f s0 = some o → (∀ s1, o = .inl s1 → WX p l e R s m args below meth c cc own Ts D tys A nL cells slots Q (wf s1) pc (lf s1) []) → (∀ x, o = .inr x → x = r) → (∀ y, Sum.inl y = r → WX p l e R s m args below meth c cc own Ts D tys A nL cells slots Q (wx y) pcx (lx y) []) → WX p l e R s m args below meth c cc own Ts D tys A nL cells slots Q (wf s0) pc (lf s0) []) : WX p l e R s m args below meth c cc own Ts D tys A nL cells slots Q ws pc lv [] := by
  subst e1; subst e2
  have key : ∀ (n : Nat) (s0 : S), itr f n s0 = some r → WX p l e R s m args below meth c cc own Ts D tys A nL cells slots Q (wf s0) pc (lf s0) [] := by
    intro n
    induction n with
    | zero => intro s0 h; cases h
    | succ n ih =>
      intro s0 h
      obtain ⟨o, h1, h2⟩ := bnd h
      refine body s0 o h1 (fun s1 q => ?_) (fun x q => ?_) (fun y e => kx y e.symm)
      · subst q; exact ih s1 h2
      · subst q; exact Option.some.inj h2
  exact key n i0 hl
end II
section II
variable {p : Program} {l : Launch} {e : Env} {R : Room} {s : State} {m : MethodId} {args : Array Value} {below : List Frame} {meth : Method} {c : Code} {cc : ByteArray} {own : String} {Ts : List Cond} {D : va_G} {tys : List (ClassId × FieldType)} {A : Nat → Prop} {nL cells slots : Nat} {Q : State → Prop} {ws ws' : va_W} {pc : Nat} {lv lv' : List (Nat × Value)} {st : List Value}
theorem ii_lv (ks : List Nat) (h : lv_pick lv ks = lv') (k : WX p l e R s m args below meth c cc own Ts D tys A nL cells slots Q ws pc lv' st) : WX p l e R s m args below meth c cc own Ts D tys A nL cells slots Q ws pc lv st := fun C H locs ls hP hD hS hl => k C H locs ls hP hD hS (lv_sub hl ks h)
theorem ii_get {C : String} {T : u_T} {N ci index a : Nat} {fs : List Value} {v : Value} (hin : ∀ w ∈ u_ws C T N, w ∈ Ts) (q0 : Nat) (he : ws[q0]? = some (a, .inr (ci, fs))) (hc : vwCl[ci]? = some (C, T, N)) (k : Nat) (hk : k < N) (hlink : Cond.fieldLink own index (T k).1 (T k).2.1 (T k).2.2.1 ∈ Ts) (hv : fs[k]? = some v) (d : decode cc pc = .ok (.getfield index, 3)) (kk : WX p l e R s m args below meth c cc own Ts D tys A nL cells slots Q ws (pc + 3) lv (v :: st)) : WX p l e R s m args below meth c cc own Ts D tys A nL cells slots Q ws pc lv (.ref a :: st) := by
  intro C H locs ls hP hD hS hl
  obtain ⟨hx, hb, hml, hown, hts, hK, hlk, hA, hZ⟩ := id C
  exact va_get hx hb hts hin hown hK hP q0 he hc k hk (hts _ hlink) (fun _ h9 => h9) hv d (kk C H locs ls hP hD hS hl)
theorem ii_put {C : String} {T : u_T} {N ci index a : Nat} {fs : List Value} {v : Value} {ty0 : Nat → FieldType} (hin : ∀ w ∈ u_ws C T N, w ∈ Ts) (hty : ∀ k, k < N → parseFieldDescriptor (T k).2.2.1 = some (ty0 k)) (hnm : ∀ a, a < N → ∀ b, b < N → a ≠ b → (T a).2.1 ≠ (T b).2.1) (q0 : Nat) (he : ws[q0]? = some (a, .inr (ci, fs))) (hc : vwCl[ci]? = some (C, T, N)) (k : Nat) (hk : k < N) (hlink : Cond.fieldLink own index (T k).1 (T k).2.1 (T k).2.2.1 ∈ Ts) (hfin : (T k).2.2.2 = false) (hn : narrow (ty0 k) v = v) (hfit : fits (ty0 k) v = true) (hlen : k < fs.length) (d : decode cc pc = .ok (.putfield index, 3)) (hws : ws.set q0 (a, .inr (ci, fs.set k v)) = ws') (kk : WX p l e R s m args below meth c cc own Ts D tys A nL cells slots Q ws' (pc + 3) lv st) : WX p l e R s m args below meth c cc own Ts D tys A nL cells slots Q ws pc lv (v :: .ref a :: st) := by
  intro C H locs ls hP hD hS hl
  obtain ⟨hx, hb, hml, hown, hts, hK, hlk, hA, hZ⟩ := id C
  subst hws
  exact va_put hx hb hts hin ty0 hty hnm hown hK hP hD hS q0 he hc k hk (hts _ hlink) (fun _ h9 => h9) hfin (hty k hk) hn hfit hlen d (fun H1 locs1 hP hD hS => kk C H1 locs1 ls hP hD hS hl)
theorem ii_alen {a : Nat} {cA : ClassId} {x : vp_A} {ty : FieldType} {v : Int32} (q0 t0 : Nat) (ha : ws[q0]? = some (a, .inl (cA, x))) (ht : tys[t0]? = some (cA, ty)) (hv : Int32.ofNat x.1 = v) (d : decode cc pc = .ok (.arraylength, 1)) (kk : WX p l e R s m args below meth c cc own Ts D tys A nL cells slots Q ws (pc + 1) lv (.int v :: st)) : WX p l e R s m args below meth c cc own Ts D tys A nL cells slots Q ws pc lv (.ref a :: st) := by
  intro C H locs ls hP hD hS hl
  obtain ⟨hx, hb, hml, hown, hts, hK, hlk, hA, hZ⟩ := id C
  exact va_alen hx hb hK hP q0 t0 ha ht hv d (kk C H locs ls hP hD hS hl)
theorem ii_iald {α : Type} {r : α} {a n : Nat} {cA : ClassId} {f : Nat → Int32} {i : Int32} {K : Int32 → Option α} (h : Option.bind (gI f n i) K = some r) (q0 t0 : Nat) (ha : ws[q0]? = some (a, .inl (cA, n, .inl f))) (ht : tys[t0]? = some (cA, .int)) (d : decode cc pc = .ok (.iaload, 1)) (kk : ∀ x, K x = some r → WX p l e R s m args below meth c cc own Ts D tys A nL cells slots Q ws (pc + 1) lv (.int x :: st)) : WX p l e R s m args below meth c cc own Ts D tys A nL cells slots Q ws pc lv (.int i :: .ref a :: st) := by
  intro C H locs ls hP hD hS hl
  obtain ⟨hx, hb, hml, hown, hts, hK, hlk, hA, hZ⟩ := id C
  obtain ⟨x, h1, h2⟩ := bnd h
  obtain ⟨h3, h4⟩ := gI_in h1
  subst h4
  exact va_iald hx hb hK hP q0 t0 ha ht h3 d (kk _ h2 C H locs ls hP hD hS hl)
theorem ii_zald {α : Type} {r : α} {a n : Nat} {cA : ClassId} {f : Nat → Int32} {i : Int32} {K : Int32 → Option α} (h : Option.bind (gI f n i) K = some r) (q0 t0 : Nat) (ha : ws[q0]? = some (a, .inl (cA, n, .inl f))) (ht : tys[t0]? = some (cA, .boolean)) (d : decode cc pc = .ok (.baload, 1)) (kk : ∀ x, K x = some r → WX p l e R s m args below meth c cc own Ts D tys A nL cells slots Q ws (pc + 1) lv (.int x :: st)) : WX p l e R s m args below meth c cc own Ts D tys A nL cells slots Q ws pc lv (.int i :: .ref a :: st) := by
  intro C H locs ls hP hD hS hl
  obtain ⟨hx, hb, hml, hown, hts, hK, hlk, hA, hZ⟩ := id C
  obtain ⟨x, h1, h2⟩ := bnd h
  obtain ⟨h3, h4⟩ := gI_in h1
  subst h4
  exact va_zald hx hb hK hP q0 t0 ha ht h3 d (kk _ h2 C H locs ls hP hD hS hl)
theorem ii_lald {α : Type} {r : α} {a n : Nat} {cA : ClassId} {f : Nat → Int64} {i : Int32} {K : Int64 → Option α} (h : Option.bind (gL f n i) K = some r) (q0 t0 : Nat) (ha : ws[q0]? = some (a, .inl (cA, n, .inr (.inl f)))) (ht : tys[t0]? = some (cA, .long)) (d : decode cc pc = .ok (.laload, 1)) (kk : ∀ x, K x = some r → WX p l e R s m args below meth c cc own Ts D tys A nL cells slots Q ws (pc + 1) lv (.long x :: st)) : WX p l e R s m args below meth c cc own Ts D tys A nL cells slots Q ws pc lv (.int i :: .ref a :: st) := by
  intro C H locs ls hP hD hS hl
  obtain ⟨hx, hb, hml, hown, hts, hK, hlk, hA, hZ⟩ := id C
  obtain ⟨x, h1, h2⟩ := bnd h
  obtain ⟨h3, h4⟩ := gL_in h1
  subst h4
  exact va_lald hx hb hK hP q0 t0 ha ht h3 d (kk _ h2 C H locs ls hP hD hS hl)
theorem ii_iast {α : Type} {r : α} {a n : Nat} {cA : ClassId} {f : Nat → Int32} {i : Int32} {x : Int32} {K : (Nat → Int32) → Option α} (wf : (Nat → Int32) → va_W) (h : Option.bind (sI f n i x) K = some r) (q0 t0 : Nat) (ha : ws[q0]? = some (a, .inl (cA, n, .inl f))) (ht : tys[t0]? = some (cA, .int)) (d : decode cc pc = .ok (.iastore, 1)) (hws : ∀ g, ws.set q0 (a, .inl (cA, n, .inl g)) = wf g) (kk : ∀ g, K g = some r → WX p l e R s m args below meth c cc own Ts D tys A nL cells slots Q (wf g) (pc + 1) lv st) : WX p l e R s m args below meth c cc own Ts D tys A nL cells slots Q ws pc lv (.int x :: .int i :: .ref a :: st) := by
  intro C H locs ls hP hD hS hl
  obtain ⟨hx, hb, hml, hown, hts, hK, hlk, hA, hZ⟩ := id C
  obtain ⟨g, h1, h2⟩ := bnd h
  obtain ⟨h3, h4⟩ := sI_in h1
  subst h4
  exact va_iast hx hb hK hP hD hS q0 t0 ha ht h3 d (fun H1 locs1 hP hD hS => kk _ h2 C H1 locs1 ls (by rw [← hws]; exact hP) (by rw [← hws]; exact hD) hS hl)
theorem ii_zast {α : Type} {r : α} {a n : Nat} {cA : ClassId} {f : Nat → Int32} {i : Int32} {x : Int32} {K : (Nat → Int32) → Option α} (wf : (Nat → Int32) → va_W) (h : Option.bind (sZ f n i x) K = some r) (q0 t0 : Nat) (ha : ws[q0]? = some (a, .inl (cA, n, .inl f))) (ht : tys[t0]? = some (cA, .boolean)) (d : decode cc pc = .ok (.bastore, 1)) (hws : ∀ g, ws.set q0 (a, .inl (cA, n, .inl g)) = wf g) (kk : ∀ g, K g = some r → WX p l e R s m args below meth c cc own Ts D tys A nL cells slots Q (wf g) (pc + 1) lv st) : WX p l e R s m args below meth c cc own Ts D tys A nL cells slots Q ws pc lv (.int x :: .int i :: .ref a :: st) := by
  intro C H locs ls hP hD hS hl
  obtain ⟨hx, hb, hml, hown, hts, hK, hlk, hA, hZ⟩ := id C
  obtain ⟨g, h1, h2⟩ := bnd h
  obtain ⟨h3, h4⟩ := sZ_in h1
  subst h4
  exact va_zast hx hb hK hP hD hS q0 t0 ha ht h3 d (fun H1 locs1 hP hD hS => kk _ h2 C H1 locs1 ls (by rw [← hws]; exact hP) (by rw [← hws]; exact hD) hS hl)
theorem ii_last {α : Type} {r : α} {a n : Nat} {cA : ClassId} {f : Nat → Int64} {i : Int32} {x : Int64} {K : (Nat → Int64) → Option α} (wf : (Nat → Int64) → va_W) (h : Option.bind (sL f n i x) K = some r) (q0 t0 : Nat) (ha : ws[q0]? = some (a, .inl (cA, n, .inr (.inl f)))) (ht : tys[t0]? = some (cA, .long)) (d : decode cc pc = .ok (.lastore, 1)) (hws : ∀ g, ws.set q0 (a, .inl (cA, n, .inr (.inl g))) = wf g) (kk : ∀ g, K g = some r → WX p l e R s m args below meth c cc own Ts D tys A nL cells slots Q (wf g) (pc + 1) lv st) : WX p l e R s m args below meth c cc own Ts D tys A nL cells slots Q ws pc lv (.long x :: .int i :: .ref a :: st) := by
  intro C H locs ls hP hD hS hl
  obtain ⟨hx, hb, hml, hown, hts, hK, hlk, hA, hZ⟩ := id C
  obtain ⟨g, h1, h2⟩ := bnd h
  obtain ⟨h3, h4⟩ := sL_in h1
  subst h4
  exact va_last hx hb hK hP hD hS q0 t0 ha ht h3 d (fun H1 locs1 hP hD hS => kk _ h2 C H1 locs1 ls (by rw [← hws]; exact hP) (by rw [← hws]; exact hD) hS hl)
theorem ii_getsU {index : Nat} (hlink : Cond.fieldLink own index "TinHouse$Law" "USUAL" "[I" ∈ Ts) (d : decode cc pc = .ok (.getstatic index, 3)) (kk : ∀ t : Nat, va_T .int t 3 (fun k => .int (ii_usual k)) A s s.heap → WX p l e R s m args below meth c cc own Ts D tys A nL cells slots Q ws (pc + 3) lv (.ref t :: st)) : WX p l e R s m args below meth c cc own Ts D tys A nL cells slots Q ws pc lv st := by
  intro C H locs ls hP hD hS hl
  obtain ⟨hx, hb, hml, hown, hts, hK, hlk, hA, hZ⟩ := id C
  obtain ⟨t1, t2, h1, h2, h3, h4⟩ := hZ
  exact va_gets hx hb h1 hS hown (hts _ hlink) (fun _ h9 => h9) d (kk t1 h2 C H locs ls hP hD hS hl)
theorem ii_getsM {index : Nat} (hlink : Cond.fieldLink own index "TinHouse$Law" "MOST" "[I" ∈ Ts) (d : decode cc pc = .ok (.getstatic index, 3)) (kk : ∀ t : Nat, va_T .int t 3 (fun k => .int (ii_most k)) A s s.heap → WX p l e R s m args below meth c cc own Ts D tys A nL cells slots Q ws (pc + 3) lv (.ref t :: st)) : WX p l e R s m args below meth c cc own Ts D tys A nL cells slots Q ws pc lv st := by
  intro C H locs ls hP hD hS hl
  obtain ⟨hx, hb, hml, hown, hts, hK, hlk, hA, hZ⟩ := id C
  obtain ⟨t2, t1, h3, h4, h1, h2⟩ := hZ
  exact va_gets hx hb h1 hS hown (hts _ hlink) (fun _ h9 => h9) d (kk t1 h2 C H locs ls hP hD hS hl)
theorem ii_tald {α : Type} {r : α} {t N : Nat} {f : Nat → Int32} {i : Int32} {K : Int32 → Option α} (h : Option.bind (gI f N i) K = some r) (hT : va_T .int t N (fun k => .int (f k)) A s s.heap) (d : decode cc pc = .ok (.iaload, 1)) (kk : ∀ x, K x = some r → WX p l e R s m args below meth c cc own Ts D tys A nL cells slots Q ws (pc + 1) lv (.int x :: st)) : WX p l e R s m args below meth c cc own Ts D tys A nL cells slots Q ws pc lv (.int i :: .ref t :: st) := by
  intro C H locs ls hP hD hS hl
  obtain ⟨hx, hb, hml, hown, hts, hK, hlk, hA, hZ⟩ := id C
  obtain ⟨x, h1, h2⟩ := bnd h
  obtain ⟨h3, h4⟩ := gI_in h1
  exact va_ti hx hb hT hS h3 (v := .int x) (by rw [h4]) d (kk _ h2 C H locs ls hP hD hS hl)
theorem ii_tlen {t N : Nat} {f : Nat → Value} {v : Int32} (hT : va_T .int t N f A s s.heap) (hv : Int32.ofNat N = v) (d : decode cc pc = .ok (.arraylength, 1)) (kk : WX p l e R s m args below meth c cc own Ts D tys A nL cells slots Q ws (pc + 1) lv (.int v :: st)) : WX p l e R s m args below meth c cc own Ts D tys A nL cells slots Q ws pc lv (.ref t :: st) := by
  intro C H locs ls hP hD hS hl
  obtain ⟨hx, hb, hml, hown, hts, hK, hlk, hA, hZ⟩ := id C
  exact va_tlen hx hb hT hS hv d (kk C H locs ls hP hD hS hl)
end II
def ii_Pre (D : va_G) (tys : List (ClassId × FieldType)) (av : List Value) (ws : va_W) (sz : Nat) : Array Value → State → Prop := va_Pc av (fun U => U.heap.size = sz ∧ va_P D vwCl ws U.heap ∧ va_K D vwCl tys U ∧ va_D (fun _ => True) ws ∧ ii_Z (va_A ws sz) U U.heap)
def ii_B (D : va_G) (ws ws' : va_W) (sz : Nat) : Unit → State → Prop := fun _ t => va_P D vwCl ws' t.heap
def CTi (l : Launch) (y : MethodName) (wy : List Cond) (rm : Room) (D : va_G) (tys : List (ClassId × FieldType)) (av : List Value) (ws : va_W) (r : Int32) (ws' : va_W) : Prop := ∀ sz : Nat, Met l y wy rm (ii_Pre D tys av ws sz) (va_Qi (fun (x : Int32) (_ : Unit) => x = r) (ii_B D ws ws' sz) (va_A ws sz)) 0 0 (va_A ws sz)
def CTl (l : Launch) (y : MethodName) (wy : List Cond) (rm : Room) (D : va_G) (tys : List (ClassId × FieldType)) (av : List Value) (ws : va_W) (r : Int64) (ws' : va_W) : Prop := ∀ sz : Nat, Met l y wy rm (ii_Pre D tys av ws sz) (va_Ql (fun (x : Int64) (_ : Unit) => x = r) (ii_B D ws ws' sz) (va_A ws sz)) 0 0 (va_A ws sz)
def CTv (l : Launch) (y : MethodName) (wy : List Cond) (rm : Room) (D : va_G) (tys : List (ClassId × FieldType)) (av : List Value) (ws ws' : va_W) : Prop := ∀ sz : Nat, Met l y wy rm (ii_Pre D tys av ws sz) (va_Qv (fun (_ : Unit) => True) (ii_B D ws ws' sz) (va_A ws sz)) 0 0 (va_A ws sz)
theorem ii_blind {D : va_G} {tys : List (ClassId × FieldType)} {av : List Value} {ws : va_W} {sz : Nat} : FrameBlind (ii_Pre D tys av ws sz) := by
  intro a U g mk q
  obtain ⟨q0, q1, qP, qK, qD, qZ⟩ := q
  exact ⟨q0, q1, qP, va_K.moved (u := U) (U := U.calling g mk a) (Vm.Alike.refl U.vm) qK, qD, qZ.go (u := U) (U := U.calling g mk a) (Vm.Alike.refl U.vm) (fun _ h => h) (fun _ _ _ => rfl)⟩
theorem ii_metI {l : Launch} {y : MethodName} {wy wy' : List Cond} {rm : Room} {D : va_G} {tys : List (ClassId × FieldType)} {av : List Value} {ws : va_W} {r : Int32} {ws' : va_W} {cc : ByteArray} {maxL : Nat} {lv0 : List (Nat × Value)} {own : String} (hy : plainName y.cls = true) (ho : y.cls = own) (hw : wy = Cond.code y cc maxL (some .int) :: wy') (hlv : lv_args 0 av = lv0) (hlen : (lg_sl av).length ≤ maxL)
    (body : ∀ {p : Program} {e : Env} {s : State} {m : MethodId} {args : Array Value} {below : List Frame} {meth : Method} {c : Code} {A : Nat → Prop} {Q : State → Prop}, (∀ (pc : Nat) (lv : List (Nat × Value)), decode cc pc = .ok (.ireturn, 1) → WX p l e rm s m args below meth c cc own wy D tys A maxL 0 0 Q ws' pc lv [.int r]) → WX p l e rm s m args below meth c cc own wy D tys A maxL 0 0 Q ws 0 lv0 []) : CTi l y wy rm D tys av ws r ws' := by
  subst ho
  intro sz
  refine Met.ofW (cc := cc) (maxL := maxL) (ret := (some .int)) hy hw ?_
  intro p e s m args below meth c s₁ B hml hv
  obtain ⟨rfl, hsz, hP, hK, hD0, hZ⟩ := hv
  have hx := B.exec
  have hb := B.bytes
  have hr := B.returns
  have hts := atoms_spec (ws := wy) B.pre
  have hown : s.vm.findClass y.cls = some m.cls := findClass_of_methodNamed B.named
  have hlocks := B.notSynchronized
  subst hsz
  have hD := hD0.self (sz := s.heap.size)
  have hA : ∀ q : Nat, s.heap.size ≤ q → va_A ws s.heap.size q := fun q h => Or.inr h
  have hl := lv_entry av (n := maxL) hlen
  rw [hlv] at hl
  rw [lg_entry_eq]
  refine body (Q := MQ below _ _ s 0 0 (va_A ws s.heap.size)) ?_ ⟨hx, hb, hml, hown, hts, hK, hlocks, hA, hZ⟩ s.heap [] _ hP hD va_S.rf hl
  intro pc lv d C H locs ls hP hD hS hl
  exact W.iret hx hb hr (fun t ht hW => ⟨⟨r, (), rfl, rfl, by unfold ii_B; rw [ht]; exact hP⟩, hS.F ht⟩) hS.2.2 d
theorem ii_metZ {l : Launch} {y : MethodName} {wy wy' : List Cond} {rm : Room} {D : va_G} {tys : List (ClassId × FieldType)} {av : List Value} {ws : va_W} {r : Int32} {ws' : va_W} {cc : ByteArray} {maxL : Nat} {lv0 : List (Nat × Value)} {own : String} (hy : plainName y.cls = true) (ho : y.cls = own) (hw : wy = Cond.code y cc maxL (some .boolean) :: wy') (hlv : lv_args 0 av = lv0) (hlen : (lg_sl av).length ≤ maxL)
    (body : ∀ {p : Program} {e : Env} {s : State} {m : MethodId} {args : Array Value} {below : List Frame} {meth : Method} {c : Code} {A : Nat → Prop} {Q : State → Prop}, (∀ (pc : Nat) (lv : List (Nat × Value)), decode cc pc = .ok (.ireturn, 1) → (r = 0 ∨ r = 1) → WX p l e rm s m args below meth c cc own wy D tys A maxL 0 0 Q ws' pc lv [.int r]) → WX p l e rm s m args below meth c cc own wy D tys A maxL 0 0 Q ws 0 lv0 []) : CTi l y wy rm D tys av ws r ws' := by
  subst ho
  intro sz
  refine Met.ofW (cc := cc) (maxL := maxL) (ret := (some .boolean)) hy hw ?_
  intro p e s m args below meth c s₁ B hml hv
  obtain ⟨rfl, hsz, hP, hK, hD0, hZ⟩ := hv
  have hx := B.exec
  have hb := B.bytes
  have hr := B.returns
  have hts := atoms_spec (ws := wy) B.pre
  have hown : s.vm.findClass y.cls = some m.cls := findClass_of_methodNamed B.named
  have hlocks := B.notSynchronized
  subst hsz
  have hD := hD0.self (sz := s.heap.size)
  have hA : ∀ q : Nat, s.heap.size ≤ q → va_A ws s.heap.size q := fun q h => Or.inr h
  have hl := lv_entry av (n := maxL) hlen
  rw [hlv] at hl
  rw [lg_entry_eq]
  refine body (Q := MQ below _ _ s 0 0 (va_A ws s.heap.size)) ?_ ⟨hx, hb, hml, hown, hts, hK, hlocks, hA, hZ⟩ s.heap [] _ hP hD va_S.rf hl
  intro pc lv d hz C H locs ls hP hD hS hl
  exact W.zret hx hb hr (by rcases hz with q | q <;> subst q <;> rfl) (fun t ht hW => ⟨⟨r, (), rfl, rfl, by unfold ii_B; rw [ht]; exact hP⟩, hS.F ht⟩) hS.2.2 d
theorem ii_metL {l : Launch} {y : MethodName} {wy wy' : List Cond} {rm : Room} {D : va_G} {tys : List (ClassId × FieldType)} {av : List Value} {ws : va_W} {r : Int64} {ws' : va_W} {cc : ByteArray} {maxL : Nat} {lv0 : List (Nat × Value)} {own : String} (hy : plainName y.cls = true) (ho : y.cls = own) (hw : wy = Cond.code y cc maxL (some .long) :: wy') (hlv : lv_args 0 av = lv0) (hlen : (lg_sl av).length ≤ maxL)
    (body : ∀ {p : Program} {e : Env} {s : State} {m : MethodId} {args : Array Value} {below : List Frame} {meth : Method} {c : Code} {A : Nat → Prop} {Q : State → Prop}, (∀ (pc : Nat) (lv : List (Nat × Value)), decode cc pc = .ok (.lreturn, 1) → WX p l e rm s m args below meth c cc own wy D tys A maxL 0 0 Q ws' pc lv [.long r]) → WX p l e rm s m args below meth c cc own wy D tys A maxL 0 0 Q ws 0 lv0 []) : CTl l y wy rm D tys av ws r ws' := by
  subst ho
  intro sz
  refine Met.ofW (cc := cc) (maxL := maxL) (ret := (some .long)) hy hw ?_
  intro p e s m args below meth c s₁ B hml hv
  obtain ⟨rfl, hsz, hP, hK, hD0, hZ⟩ := hv
  have hx := B.exec
  have hb := B.bytes
  have hr := B.returns
  have hts := atoms_spec (ws := wy) B.pre
  have hown : s.vm.findClass y.cls = some m.cls := findClass_of_methodNamed B.named
  have hlocks := B.notSynchronized
  subst hsz
  have hD := hD0.self (sz := s.heap.size)
  have hA : ∀ q : Nat, s.heap.size ≤ q → va_A ws s.heap.size q := fun q h => Or.inr h
  have hl := lv_entry av (n := maxL) hlen
  rw [hlv] at hl
  rw [lg_entry_eq]
  refine body (Q := MQ below _ _ s 0 0 (va_A ws s.heap.size)) ?_ ⟨hx, hb, hml, hown, hts, hK, hlocks, hA, hZ⟩ s.heap [] _ hP hD va_S.rf hl
  intro pc lv d C H locs ls hP hD hS hl
  exact W.lret hx hb hr (fun t ht hW => ⟨⟨r, (), rfl, rfl, by unfold ii_B; rw [ht]; exact hP⟩, hS.F ht⟩) hS.2.2 d
theorem ii_metV {l : Launch} {y : MethodName} {wy wy' : List Cond} {rm : Room} {D : va_G} {tys : List (ClassId × FieldType)} {av : List Value} {ws : va_W} {ws' : va_W} {cc : ByteArray} {maxL : Nat} {lv0 : List (Nat × Value)} {own : String} (hy : plainName y.cls = true) (ho : y.cls = own) (hw : wy = Cond.code y cc maxL none :: wy') (hlv : lv_args 0 av = lv0) (hlen : (lg_sl av).length ≤ maxL)
    (body : ∀ {p : Program} {e : Env} {s : State} {m : MethodId} {args : Array Value} {below : List Frame} {meth : Method} {c : Code} {A : Nat → Prop} {Q : State → Prop}, (∀ (pc : Nat) (lv : List (Nat × Value)), decode cc pc = .ok (.return_, 1) → WX p l e rm s m args below meth c cc own wy D tys A maxL 0 0 Q ws' pc lv []) → WX p l e rm s m args below meth c cc own wy D tys A maxL 0 0 Q ws 0 lv0 []) : CTv l y wy rm D tys av ws ws' := by
  subst ho
  intro sz
  refine Met.ofW (cc := cc) (maxL := maxL) (ret := none) hy hw ?_
  intro p e s m args below meth c s₁ B hml hv
  obtain ⟨rfl, hsz, hP, hK, hD0, hZ⟩ := hv
  have hx := B.exec
  have hb := B.bytes
  have hr := B.returns
  have hts := atoms_spec (ws := wy) B.pre
  have hown : s.vm.findClass y.cls = some m.cls := findClass_of_methodNamed B.named
  have hlocks := B.notSynchronized
  subst hsz
  have hD := hD0.self (sz := s.heap.size)
  have hA : ∀ q : Nat, s.heap.size ≤ q → va_A ws s.heap.size q := fun q h => Or.inr h
  have hl := lv_entry av (n := maxL) hlen
  rw [hlv] at hl
  rw [lg_entry_eq]
  refine body (Q := MQ below _ _ s 0 0 (va_A ws s.heap.size)) ?_ ⟨hx, hb, hml, hown, hts, hK, hlocks, hA, hZ⟩ s.heap [] _ hP hD va_S.rf hl
  intro pc lv d C H locs ls hP hD hS hl
  exact W.vret hx hb hr (fun t ht hW => ⟨⟨(), rfl, trivial, by unfold ii_B; rw [ht]; exact hP⟩, hS.F ht⟩) hS.2.2 d
section II
variable {p : Program} {l : Launch} {e : Env} {R : Room} {s : State} {m : MethodId} {args : Array Value} {below : List Frame} {meth : Method} {c : Code} {cc : ByteArray} {own : String} {Ts : List Cond} {D : va_G} {tys : List (ClassId × FieldType)} {A : Nat → Prop} {nL cells slots : Nat} {Q : State → Prop} {ws ws' : va_W} {pc : Nat} {lv lv' : List (Nat × Value)} {st : List Value}
theorem ii_callVi {y : MethodName} {wy wy' : List Cond} {bytes : ByteArray} {maxL n idx : Nat} {ret : Option FieldType} {rm : Room} {b ci N : Nat} {C : String} {T : u_T} {fs : List Value} {As sk : List Value} {wc wc' : va_W} {r0 : Int32} (hc : CTi l y wy rm D tys (.ref b :: As) wc r0 wc') (hG : GoodIn Ts (wsV own idx C y wy)) (hw : wy = Cond.code y bytes maxL ret :: wy') (hrc : rm.cells = 0) (hrs : rm.slots = 0) (hd : y.cls = C ∧ y.cls ≠ "java/lang/invoke/MethodHandle" ∧ y.cls ≠ "java/lang/invoke/VarHandle" ∧ (parseMethodDescriptor y.desc).map (fun d => d.parameters.length) = some n) (hR : rm.frames + 1 ≤ R.frames ∧ 8 + (maxL + 11) + rm.locals ≤ R.locals) (hn : As.length = n) (q0 : Nat) (he : ws[q0]? = some (b, .inr (ci, fs))) (hcl : vwCl[ci]? = some (C, T, N)) (isC : List Nat) (hC : isC.map (fun i => ws[i]?) = wc.map some) (hnd : va_nd isC = true) (ha : wc'.map (fun q => q.1) = wc.map (fun q => q.1)) (h2 : ii_pt ws isC wc' = ws') (h3 : ws'.map (fun q => q.1) = ws.map (fun q => q.1)) (hst : (st.map fun v => v.category).sum ≤ 8) (hcs : cells + 0 ≤ R.cells) (hss : slots + 0 ≤ R.slots) (hsk : sk = As.reverse ++ .ref b :: st) (d : decode cc pc = .ok (.invokevirtual idx, 3)) (kk : WX p l e R s m args below meth c cc own Ts D tys A nL cells slots Q ws' (pc + 3) lv (.int r0 :: st)) : WX p l e R s m args below meth c cc own Ts D tys A nL cells slots Q ws pc lv sk := by
  intro C H locs ls hP hD hS hl
  obtain ⟨hx, hb, hml, hown, hts, hK, hlk, hA, hZ⟩ := id C
  have hPc := hP.sub (ws' := wc) isC (by
    have h9 := congrArg (fun (z : List (Option (Nat × va_E))) => z.filterMap id) hC
    simpa [List.filterMap_map, Function.comp_def] using h9)
  have hDc := hD.sub isC hnd hC
  have hFc := va_free (wc := wc) hD hS hA isC hC
  have hpre : ∀ U : State, U.heap = H → s.WarmedH U.vm → ii_Pre D tys (.ref b :: As) wc H.size (.ref b :: As).toArray U := fun U hU hW => ⟨rfl, by rw [hU], by rw [hU]; exact hPc, va_K.moved hW.alike hK, hDc.weaken (fun _ _ _ _ => trivial), by rw [hU]; exact hZ.go hW.alike hFc (fun a h1 h2 => hS.2.1 a h1 h2)⟩
  refine va_calli (va_runV (As := As) (rest := st) ⟨hx, hb, hml, hown, hts⟩ (hc H.size) (cwV n hts hG hw hrc hrs hd hR) ⟨ii_blind, va_recv hK hP hcl he, hpre⟩ rfl hn hl.1 hsk (lv_room hst) d ⟨hcs, hss⟩) hS (fun q _ h => hFc q h) hFc (fun x u t H1 locs1 ht hvm hw hB hz1 hk1 hS1 => ?_)
  subst hw
  have hP1 : va_P D vwCl wc' H1 := by rw [← ht]; exact hB
  have hP2 := ii_putP hP hD isC hC hnd ha hk1 hP1
  rw [h2] at hP2
  exact kk C H1 locs1 ls hP2 (ii_D hD h3) hS1 hl
theorem ii_callSi {y : MethodName} {wy wy' : List Cond} {bytes : ByteArray} {maxL n idx : Nat} {ret : Option FieldType} {rm : Room} {As sk : List Value} {wc wc' : va_W} {r0 : Int32} (hc : CTi l y wy rm D tys As wc r0 wc') (hG : GoodIn Ts (wsS own idx y wy)) (hw : wy = Cond.code y bytes maxL ret :: wy') (hrc : rm.cells = 0) (hrs : rm.slots = 0) (hd : y.cls = own ∧ y.cls ≠ "java/lang/invoke/MethodHandle" ∧ y.cls ≠ "java/lang/invoke/VarHandle" ∧ (parseMethodDescriptor y.desc).map (fun d => d.parameters.length) = some n) (hR : rm.frames + 1 ≤ R.frames ∧ 8 + (maxL + 11) + rm.locals ≤ R.locals) (hn : As.length = n) (isC : List Nat) (hC : isC.map (fun i => ws[i]?) = wc.map some) (hnd : va_nd isC = true) (ha : wc'.map (fun q => q.1) = wc.map (fun q => q.1)) (h2 : ii_pt ws isC wc' = ws') (h3 : ws'.map (fun q => q.1) = ws.map (fun q => q.1)) (hst : (st.map fun v => v.category).sum ≤ 8) (hcs : cells + 0 ≤ R.cells) (hss : slots + 0 ≤ R.slots) (hsk : sk = As.reverse ++ st) (d : decode cc pc = .ok (.invokestatic idx, 3)) (kk : WX p l e R s m args below meth c cc own Ts D tys A nL cells slots Q ws' (pc + 3) lv (.int r0 :: st)) : WX p l e R s m args below meth c cc own Ts D tys A nL cells slots Q ws pc lv sk := by
  intro C H locs ls hP hD hS hl
  obtain ⟨hx, hb, hml, hown, hts, hK, hlk, hA, hZ⟩ := id C
  have hPc := hP.sub (ws' := wc) isC (by
    have h9 := congrArg (fun (z : List (Option (Nat × va_E))) => z.filterMap id) hC
    simpa [List.filterMap_map, Function.comp_def] using h9)
  have hDc := hD.sub isC hnd hC
  have hFc := va_free (wc := wc) hD hS hA isC hC
  have hpre : ∀ U : State, U.heap = H → s.WarmedH U.vm → ii_Pre D tys As wc H.size As.toArray U := fun U hU hW => ⟨rfl, by rw [hU], by rw [hU]; exact hPc, va_K.moved hW.alike hK, hDc.weaken (fun _ _ _ _ => trivial), by rw [hU]; exact hZ.go hW.alike hFc (fun a h1 h2 => hS.2.1 a h1 h2)⟩
  refine va_calli (va_runS (As := As) (rest := st) ⟨hx, hb, hml, hown, hts⟩ (hc H.size) (cwS n hts hG hw hrc hrs hd hR) ⟨ii_blind, hpre⟩ rfl hn hl.1 hsk (lv_room hst) d ⟨hcs, hss⟩) hS (fun q _ h => hFc q h) hFc (fun x u t H1 locs1 ht hvm hw hB hz1 hk1 hS1 => ?_)
  subst hw
  have hP1 : va_P D vwCl wc' H1 := by rw [← ht]; exact hB
  have hP2 := ii_putP hP hD isC hC hnd ha hk1 hP1
  rw [h2] at hP2
  exact kk C H1 locs1 ls hP2 (ii_D hD h3) hS1 hl
theorem ii_callJi {y : MethodName} {wy wy' : List Cond} {bytes : ByteArray} {maxL n idx : Nat} {ret : Option FieldType} {rm : Room} {As sk : List Value} {wc wc' : va_W} {r0 : Int32} (hc : CTi l y wy rm D tys As wc r0 wc') (hG : GoodIn Ts (va_wsS own idx y wy)) (hw : wy = Cond.code y bytes maxL ret :: wy') (hrc : rm.cells = 0) (hrs : rm.slots = 0) (hd : y.cls ≠ "java/lang/invoke/MethodHandle" ∧ y.cls ≠ "java/lang/invoke/VarHandle" ∧ (parseMethodDescriptor y.desc).map (fun d => d.parameters.length) = some n) (hR : rm.frames + 1 ≤ R.frames ∧ 8 + (maxL + 11) + rm.locals ≤ R.locals) (hn : As.length = n) (isC : List Nat) (hC : isC.map (fun i => ws[i]?) = wc.map some) (hnd : va_nd isC = true) (ha : wc'.map (fun q => q.1) = wc.map (fun q => q.1)) (h2 : ii_pt ws isC wc' = ws') (h3 : ws'.map (fun q => q.1) = ws.map (fun q => q.1)) (hst : (st.map fun v => v.category).sum ≤ 8) (hcs : cells + 0 ≤ R.cells) (hss : slots + 0 ≤ R.slots) (hsk : sk = As.reverse ++ st) (d : decode cc pc = .ok (.invokestatic idx, 3)) (kk : WX p l e R s m args below meth c cc own Ts D tys A nL cells slots Q ws' (pc + 3) lv (.int r0 :: st)) : WX p l e R s m args below meth c cc own Ts D tys A nL cells slots Q ws pc lv sk := by
  intro C H locs ls hP hD hS hl
  obtain ⟨hx, hb, hml, hown, hts, hK, hlk, hA, hZ⟩ := id C
  have hPc := hP.sub (ws' := wc) isC (by
    have h9 := congrArg (fun (z : List (Option (Nat × va_E))) => z.filterMap id) hC
    simpa [List.filterMap_map, Function.comp_def] using h9)
  have hDc := hD.sub isC hnd hC
  have hFc := va_free (wc := wc) hD hS hA isC hC
  have hpre : ∀ U : State, U.heap = H → s.WarmedH U.vm → ii_Pre D tys As wc H.size As.toArray U := fun U hU hW => ⟨rfl, by rw [hU], by rw [hU]; exact hPc, va_K.moved hW.alike hK, hDc.weaken (fun _ _ _ _ => trivial), by rw [hU]; exact hZ.go hW.alike hFc (fun a h1 h2 => hS.2.1 a h1 h2)⟩
  refine va_calli (va_runS (As := As) (rest := st) ⟨hx, hb, hml, hown, hts⟩ (hc H.size) (va_cwS n hts hG hw hrc hrs hd hR) ⟨ii_blind, hpre⟩ rfl hn hl.1 hsk (lv_room hst) d ⟨hcs, hss⟩) hS (fun q _ h => hFc q h) hFc (fun x u t H1 locs1 ht hvm hw hB hz1 hk1 hS1 => ?_)
  subst hw
  have hP1 : va_P D vwCl wc' H1 := by rw [← ht]; exact hB
  have hP2 := ii_putP hP hD isC hC hnd ha hk1 hP1
  rw [h2] at hP2
  exact kk C H1 locs1 ls hP2 (ii_D hD h3) hS1 hl
theorem ii_callVl {y : MethodName} {wy wy' : List Cond} {bytes : ByteArray} {maxL n idx : Nat} {ret : Option FieldType} {rm : Room} {b ci N : Nat} {C : String} {T : u_T} {fs : List Value} {As sk : List Value} {wc wc' : va_W} {r0 : Int64} (hc : CTl l y wy rm D tys (.ref b :: As) wc r0 wc') (hG : GoodIn Ts (wsV own idx C y wy)) (hw : wy = Cond.code y bytes maxL ret :: wy') (hrc : rm.cells = 0) (hrs : rm.slots = 0) (hd : y.cls = C ∧ y.cls ≠ "java/lang/invoke/MethodHandle" ∧ y.cls ≠ "java/lang/invoke/VarHandle" ∧ (parseMethodDescriptor y.desc).map (fun d => d.parameters.length) = some n) (hR : rm.frames + 1 ≤ R.frames ∧ 8 + (maxL + 11) + rm.locals ≤ R.locals) (hn : As.length = n) (q0 : Nat) (he : ws[q0]? = some (b, .inr (ci, fs))) (hcl : vwCl[ci]? = some (C, T, N)) (isC : List Nat) (hC : isC.map (fun i => ws[i]?) = wc.map some) (hnd : va_nd isC = true) (ha : wc'.map (fun q => q.1) = wc.map (fun q => q.1)) (h2 : ii_pt ws isC wc' = ws') (h3 : ws'.map (fun q => q.1) = ws.map (fun q => q.1)) (hst : (st.map fun v => v.category).sum ≤ 8) (hcs : cells + 0 ≤ R.cells) (hss : slots + 0 ≤ R.slots) (hsk : sk = As.reverse ++ .ref b :: st) (d : decode cc pc = .ok (.invokevirtual idx, 3)) (kk : WX p l e R s m args below meth c cc own Ts D tys A nL cells slots Q ws' (pc + 3) lv (.long r0 :: st)) : WX p l e R s m args below meth c cc own Ts D tys A nL cells slots Q ws pc lv sk := by
  intro C H locs ls hP hD hS hl
  obtain ⟨hx, hb, hml, hown, hts, hK, hlk, hA, hZ⟩ := id C
  have hPc := hP.sub (ws' := wc) isC (by
    have h9 := congrArg (fun (z : List (Option (Nat × va_E))) => z.filterMap id) hC
    simpa [List.filterMap_map, Function.comp_def] using h9)
  have hDc := hD.sub isC hnd hC
  have hFc := va_free (wc := wc) hD hS hA isC hC
  have hpre : ∀ U : State, U.heap = H → s.WarmedH U.vm → ii_Pre D tys (.ref b :: As) wc H.size (.ref b :: As).toArray U := fun U hU hW => ⟨rfl, by rw [hU], by rw [hU]; exact hPc, va_K.moved hW.alike hK, hDc.weaken (fun _ _ _ _ => trivial), by rw [hU]; exact hZ.go hW.alike hFc (fun a h1 h2 => hS.2.1 a h1 h2)⟩
  refine va_calll (va_runV (As := As) (rest := st) ⟨hx, hb, hml, hown, hts⟩ (hc H.size) (cwV n hts hG hw hrc hrs hd hR) ⟨ii_blind, va_recv hK hP hcl he, hpre⟩ rfl hn hl.1 hsk (lv_room hst) d ⟨hcs, hss⟩) hS (fun q _ h => hFc q h) hFc (fun x u t H1 locs1 ht hvm hw hB hz1 hk1 hS1 => ?_)
  subst hw
  have hP1 : va_P D vwCl wc' H1 := by rw [← ht]; exact hB
  have hP2 := ii_putP hP hD isC hC hnd ha hk1 hP1
  rw [h2] at hP2
  exact kk C H1 locs1 ls hP2 (ii_D hD h3) hS1 hl
theorem ii_callSl {y : MethodName} {wy wy' : List Cond} {bytes : ByteArray} {maxL n idx : Nat} {ret : Option FieldType} {rm : Room} {As sk : List Value} {wc wc' : va_W} {r0 : Int64} (hc : CTl l y wy rm D tys As wc r0 wc') (hG : GoodIn Ts (wsS own idx y wy)) (hw : wy = Cond.code y bytes maxL ret :: wy') (hrc : rm.cells = 0) (hrs : rm.slots = 0) (hd : y.cls = own ∧ y.cls ≠ "java/lang/invoke/MethodHandle" ∧ y.cls ≠ "java/lang/invoke/VarHandle" ∧ (parseMethodDescriptor y.desc).map (fun d => d.parameters.length) = some n) (hR : rm.frames + 1 ≤ R.frames ∧ 8 + (maxL + 11) + rm.locals ≤ R.locals) (hn : As.length = n) (isC : List Nat) (hC : isC.map (fun i => ws[i]?) = wc.map some) (hnd : va_nd isC = true) (ha : wc'.map (fun q => q.1) = wc.map (fun q => q.1)) (h2 : ii_pt ws isC wc' = ws') (h3 : ws'.map (fun q => q.1) = ws.map (fun q => q.1)) (hst : (st.map fun v => v.category).sum ≤ 8) (hcs : cells + 0 ≤ R.cells) (hss : slots + 0 ≤ R.slots) (hsk : sk = As.reverse ++ st) (d : decode cc pc = .ok (.invokestatic idx, 3)) (kk : WX p l e R s m args below meth c cc own Ts D tys A nL cells slots Q ws' (pc + 3) lv (.long r0 :: st)) : WX p l e R s m args below meth c cc own Ts D tys A nL cells slots Q ws pc lv sk := by
  intro C H locs ls hP hD hS hl
  obtain ⟨hx, hb, hml, hown, hts, hK, hlk, hA, hZ⟩ := id C
  have hPc := hP.sub (ws' := wc) isC (by
    have h9 := congrArg (fun (z : List (Option (Nat × va_E))) => z.filterMap id) hC
    simpa [List.filterMap_map, Function.comp_def] using h9)
  have hDc := hD.sub isC hnd hC
  have hFc := va_free (wc := wc) hD hS hA isC hC
  have hpre : ∀ U : State, U.heap = H → s.WarmedH U.vm → ii_Pre D tys As wc H.size As.toArray U := fun U hU hW => ⟨rfl, by rw [hU], by rw [hU]; exact hPc, va_K.moved hW.alike hK, hDc.weaken (fun _ _ _ _ => trivial), by rw [hU]; exact hZ.go hW.alike hFc (fun a h1 h2 => hS.2.1 a h1 h2)⟩
  refine va_calll (va_runS (As := As) (rest := st) ⟨hx, hb, hml, hown, hts⟩ (hc H.size) (cwS n hts hG hw hrc hrs hd hR) ⟨ii_blind, hpre⟩ rfl hn hl.1 hsk (lv_room hst) d ⟨hcs, hss⟩) hS (fun q _ h => hFc q h) hFc (fun x u t H1 locs1 ht hvm hw hB hz1 hk1 hS1 => ?_)
  subst hw
  have hP1 : va_P D vwCl wc' H1 := by rw [← ht]; exact hB
  have hP2 := ii_putP hP hD isC hC hnd ha hk1 hP1
  rw [h2] at hP2
  exact kk C H1 locs1 ls hP2 (ii_D hD h3) hS1 hl
theorem ii_callJl {y : MethodName} {wy wy' : List Cond} {bytes : ByteArray} {maxL n idx : Nat} {ret : Option FieldType} {rm : Room} {As sk : List Value} {wc wc' : va_W} {r0 : Int64} (hc : CTl l y wy rm D tys As wc r0 wc') (hG : GoodIn Ts (va_wsS own idx y wy)) (hw : wy = Cond.code y bytes maxL ret :: wy') (hrc : rm.cells = 0) (hrs : rm.slots = 0) (hd : y.cls ≠ "java/lang/invoke/MethodHandle" ∧ y.cls ≠ "java/lang/invoke/VarHandle" ∧ (parseMethodDescriptor y.desc).map (fun d => d.parameters.length) = some n) (hR : rm.frames + 1 ≤ R.frames ∧ 8 + (maxL + 11) + rm.locals ≤ R.locals) (hn : As.length = n) (isC : List Nat) (hC : isC.map (fun i => ws[i]?) = wc.map some) (hnd : va_nd isC = true) (ha : wc'.map (fun q => q.1) = wc.map (fun q => q.1)) (h2 : ii_pt ws isC wc' = ws') (h3 : ws'.map (fun q => q.1) = ws.map (fun q => q.1)) (hst : (st.map fun v => v.category).sum ≤ 8) (hcs : cells + 0 ≤ R.cells) (hss : slots + 0 ≤ R.slots) (hsk : sk = As.reverse ++ st) (d : decode cc pc = .ok (.invokestatic idx, 3)) (kk : WX p l e R s m args below meth c cc own Ts D tys A nL cells slots Q ws' (pc + 3) lv (.long r0 :: st)) : WX p l e R s m args below meth c cc own Ts D tys A nL cells slots Q ws pc lv sk := by
  intro C H locs ls hP hD hS hl
  obtain ⟨hx, hb, hml, hown, hts, hK, hlk, hA, hZ⟩ := id C
  have hPc := hP.sub (ws' := wc) isC (by
    have h9 := congrArg (fun (z : List (Option (Nat × va_E))) => z.filterMap id) hC
    simpa [List.filterMap_map, Function.comp_def] using h9)
  have hDc := hD.sub isC hnd hC
  have hFc := va_free (wc := wc) hD hS hA isC hC
  have hpre : ∀ U : State, U.heap = H → s.WarmedH U.vm → ii_Pre D tys As wc H.size As.toArray U := fun U hU hW => ⟨rfl, by rw [hU], by rw [hU]; exact hPc, va_K.moved hW.alike hK, hDc.weaken (fun _ _ _ _ => trivial), by rw [hU]; exact hZ.go hW.alike hFc (fun a h1 h2 => hS.2.1 a h1 h2)⟩
  refine va_calll (va_runS (As := As) (rest := st) ⟨hx, hb, hml, hown, hts⟩ (hc H.size) (va_cwS n hts hG hw hrc hrs hd hR) ⟨ii_blind, hpre⟩ rfl hn hl.1 hsk (lv_room hst) d ⟨hcs, hss⟩) hS (fun q _ h => hFc q h) hFc (fun x u t H1 locs1 ht hvm hw hB hz1 hk1 hS1 => ?_)
  subst hw
  have hP1 : va_P D vwCl wc' H1 := by rw [← ht]; exact hB
  have hP2 := ii_putP hP hD isC hC hnd ha hk1 hP1
  rw [h2] at hP2
  exact kk C H1 locs1 ls hP2 (ii_D hD h3) hS1 hl
theorem ii_callVv {y : MethodName} {wy wy' : List Cond} {bytes : ByteArray} {maxL n idx : Nat} {ret : Option FieldType} {rm : Room} {b ci N : Nat} {C : String} {T : u_T} {fs : List Value} {As sk : List Value} {wc wc' : va_W} (hc : CTv l y wy rm D tys (.ref b :: As) wc  wc') (hG : GoodIn Ts (wsV own idx C y wy)) (hw : wy = Cond.code y bytes maxL ret :: wy') (hrc : rm.cells = 0) (hrs : rm.slots = 0) (hd : y.cls = C ∧ y.cls ≠ "java/lang/invoke/MethodHandle" ∧ y.cls ≠ "java/lang/invoke/VarHandle" ∧ (parseMethodDescriptor y.desc).map (fun d => d.parameters.length) = some n) (hR : rm.frames + 1 ≤ R.frames ∧ 8 + (maxL + 11) + rm.locals ≤ R.locals) (hn : As.length = n) (q0 : Nat) (he : ws[q0]? = some (b, .inr (ci, fs))) (hcl : vwCl[ci]? = some (C, T, N)) (isC : List Nat) (hC : isC.map (fun i => ws[i]?) = wc.map some) (hnd : va_nd isC = true) (ha : wc'.map (fun q => q.1) = wc.map (fun q => q.1)) (h2 : ii_pt ws isC wc' = ws') (h3 : ws'.map (fun q => q.1) = ws.map (fun q => q.1)) (hst : (st.map fun v => v.category).sum ≤ 8) (hcs : cells + 0 ≤ R.cells) (hss : slots + 0 ≤ R.slots) (hsk : sk = As.reverse ++ .ref b :: st) (d : decode cc pc = .ok (.invokevirtual idx, 3)) (kk : WX p l e R s m args below meth c cc own Ts D tys A nL cells slots Q ws' (pc + 3) lv st) : WX p l e R s m args below meth c cc own Ts D tys A nL cells slots Q ws pc lv sk := by
  intro C H locs ls hP hD hS hl
  obtain ⟨hx, hb, hml, hown, hts, hK, hlk, hA, hZ⟩ := id C
  have hPc := hP.sub (ws' := wc) isC (by
    have h9 := congrArg (fun (z : List (Option (Nat × va_E))) => z.filterMap id) hC
    simpa [List.filterMap_map, Function.comp_def] using h9)
  have hDc := hD.sub isC hnd hC
  have hFc := va_free (wc := wc) hD hS hA isC hC
  have hpre : ∀ U : State, U.heap = H → s.WarmedH U.vm → ii_Pre D tys (.ref b :: As) wc H.size (.ref b :: As).toArray U := fun U hU hW => ⟨rfl, by rw [hU], by rw [hU]; exact hPc, va_K.moved hW.alike hK, hDc.weaken (fun _ _ _ _ => trivial), by rw [hU]; exact hZ.go hW.alike hFc (fun a h1 h2 => hS.2.1 a h1 h2)⟩
  refine va_callv (va_runV (As := As) (rest := st) ⟨hx, hb, hml, hown, hts⟩ (hc H.size) (cwV n hts hG hw hrc hrs hd hR) ⟨ii_blind, va_recv hK hP hcl he, hpre⟩ rfl hn hl.1 hsk (lv_room hst) d ⟨hcs, hss⟩) hS (fun q _ h => hFc q h) hFc (fun u t H1 locs1 ht hvm hw hB hz1 hk1 hS1 => ?_)
  have hP1 : va_P D vwCl wc' H1 := by rw [← ht]; exact hB
  have hP2 := ii_putP hP hD isC hC hnd ha hk1 hP1
  rw [h2] at hP2
  exact kk C H1 locs1 ls hP2 (ii_D hD h3) hS1 hl
theorem ii_callSv {y : MethodName} {wy wy' : List Cond} {bytes : ByteArray} {maxL n idx : Nat} {ret : Option FieldType} {rm : Room} {As sk : List Value} {wc wc' : va_W} (hc : CTv l y wy rm D tys As wc  wc') (hG : GoodIn Ts (wsS own idx y wy)) (hw : wy = Cond.code y bytes maxL ret :: wy') (hrc : rm.cells = 0) (hrs : rm.slots = 0) (hd : y.cls = own ∧ y.cls ≠ "java/lang/invoke/MethodHandle" ∧ y.cls ≠ "java/lang/invoke/VarHandle" ∧ (parseMethodDescriptor y.desc).map (fun d => d.parameters.length) = some n) (hR : rm.frames + 1 ≤ R.frames ∧ 8 + (maxL + 11) + rm.locals ≤ R.locals) (hn : As.length = n) (isC : List Nat) (hC : isC.map (fun i => ws[i]?) = wc.map some) (hnd : va_nd isC = true) (ha : wc'.map (fun q => q.1) = wc.map (fun q => q.1)) (h2 : ii_pt ws isC wc' = ws') (h3 : ws'.map (fun q => q.1) = ws.map (fun q => q.1)) (hst : (st.map fun v => v.category).sum ≤ 8) (hcs : cells + 0 ≤ R.cells) (hss : slots + 0 ≤ R.slots) (hsk : sk = As.reverse ++ st) (d : decode cc pc = .ok (.invokestatic idx, 3)) (kk : WX p l e R s m args below meth c cc own Ts D tys A nL cells slots Q ws' (pc + 3) lv st) : WX p l e R s m args below meth c cc own Ts D tys A nL cells slots Q ws pc lv sk := by
  intro C H locs ls hP hD hS hl
  obtain ⟨hx, hb, hml, hown, hts, hK, hlk, hA, hZ⟩ := id C
  have hPc := hP.sub (ws' := wc) isC (by
    have h9 := congrArg (fun (z : List (Option (Nat × va_E))) => z.filterMap id) hC
    simpa [List.filterMap_map, Function.comp_def] using h9)
  have hDc := hD.sub isC hnd hC
  have hFc := va_free (wc := wc) hD hS hA isC hC
  have hpre : ∀ U : State, U.heap = H → s.WarmedH U.vm → ii_Pre D tys As wc H.size As.toArray U := fun U hU hW => ⟨rfl, by rw [hU], by rw [hU]; exact hPc, va_K.moved hW.alike hK, hDc.weaken (fun _ _ _ _ => trivial), by rw [hU]; exact hZ.go hW.alike hFc (fun a h1 h2 => hS.2.1 a h1 h2)⟩
  refine va_callv (va_runS (As := As) (rest := st) ⟨hx, hb, hml, hown, hts⟩ (hc H.size) (cwS n hts hG hw hrc hrs hd hR) ⟨ii_blind, hpre⟩ rfl hn hl.1 hsk (lv_room hst) d ⟨hcs, hss⟩) hS (fun q _ h => hFc q h) hFc (fun u t H1 locs1 ht hvm hw hB hz1 hk1 hS1 => ?_)
  have hP1 : va_P D vwCl wc' H1 := by rw [← ht]; exact hB
  have hP2 := ii_putP hP hD isC hC hnd ha hk1 hP1
  rw [h2] at hP2
  exact kk C H1 locs1 ls hP2 (ii_D hD h3) hS1 hl
theorem ii_callJv {y : MethodName} {wy wy' : List Cond} {bytes : ByteArray} {maxL n idx : Nat} {ret : Option FieldType} {rm : Room} {As sk : List Value} {wc wc' : va_W} (hc : CTv l y wy rm D tys As wc  wc') (hG : GoodIn Ts (va_wsS own idx y wy)) (hw : wy = Cond.code y bytes maxL ret :: wy') (hrc : rm.cells = 0) (hrs : rm.slots = 0) (hd : y.cls ≠ "java/lang/invoke/MethodHandle" ∧ y.cls ≠ "java/lang/invoke/VarHandle" ∧ (parseMethodDescriptor y.desc).map (fun d => d.parameters.length) = some n) (hR : rm.frames + 1 ≤ R.frames ∧ 8 + (maxL + 11) + rm.locals ≤ R.locals) (hn : As.length = n) (isC : List Nat) (hC : isC.map (fun i => ws[i]?) = wc.map some) (hnd : va_nd isC = true) (ha : wc'.map (fun q => q.1) = wc.map (fun q => q.1)) (h2 : ii_pt ws isC wc' = ws') (h3 : ws'.map (fun q => q.1) = ws.map (fun q => q.1)) (hst : (st.map fun v => v.category).sum ≤ 8) (hcs : cells + 0 ≤ R.cells) (hss : slots + 0 ≤ R.slots) (hsk : sk = As.reverse ++ st) (d : decode cc pc = .ok (.invokestatic idx, 3)) (kk : WX p l e R s m args below meth c cc own Ts D tys A nL cells slots Q ws' (pc + 3) lv st) : WX p l e R s m args below meth c cc own Ts D tys A nL cells slots Q ws pc lv sk := by
  intro C H locs ls hP hD hS hl
  obtain ⟨hx, hb, hml, hown, hts, hK, hlk, hA, hZ⟩ := id C
  have hPc := hP.sub (ws' := wc) isC (by
    have h9 := congrArg (fun (z : List (Option (Nat × va_E))) => z.filterMap id) hC
    simpa [List.filterMap_map, Function.comp_def] using h9)
  have hDc := hD.sub isC hnd hC
  have hFc := va_free (wc := wc) hD hS hA isC hC
  have hpre : ∀ U : State, U.heap = H → s.WarmedH U.vm → ii_Pre D tys As wc H.size As.toArray U := fun U hU hW => ⟨rfl, by rw [hU], by rw [hU]; exact hPc, va_K.moved hW.alike hK, hDc.weaken (fun _ _ _ _ => trivial), by rw [hU]; exact hZ.go hW.alike hFc (fun a h1 h2 => hS.2.1 a h1 h2)⟩
  refine va_callv (va_runS (As := As) (rest := st) ⟨hx, hb, hml, hown, hts⟩ (hc H.size) (va_cwS n hts hG hw hrc hrs hd hR) ⟨ii_blind, hpre⟩ rfl hn hl.1 hsk (lv_room hst) d ⟨hcs, hss⟩) hS (fun q _ h => hFc q h) hFc (fun u t H1 locs1 ht hvm hw hB hz1 hk1 hS1 => ?_)
  have hP1 : va_P D vwCl wc' H1 := by rw [← ht]; exact hB
  have hP2 := ii_putP hP hD isC hC hnd ha hk1 hP1
  rw [h2] at hP2
  exact kk C H1 locs1 ls hP2 (ii_D hD h3) hS1 hl
end II
