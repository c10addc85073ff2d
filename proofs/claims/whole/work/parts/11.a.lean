/-! THE LAW 1: the world of both sides, as functions of a place -/
def arI : va_E → Nat → Int32
  | .inl (_, _, .inl f) => f
  | _ => fun _ => 0
def arL : va_E → Nat → Int64
  | .inl (_, _, .inr (.inl f)) => f
  | _ => fun _ => 0
def arR : va_E → Nat → Option Nat
  | .inl (_, _, .inr (.inr (.inr (.inr f)))) => f
  | _ => fun _ => none
def vaI : Option Value → Int32
  | some (.int x) => x
  | _ => 0
def vaL : Option Value → Int64
  | some (.long x) => x
  | _ => 0
def flI (i : Nat) : va_E → Int32
  | .inr (_, vs) => vaI vs[i]?
  | _ => 0
def flL (i : Nat) : va_E → Int64
  | .inr (_, vs) => vaL vs[i]?
  | _ => 0
def WZ (n : Nat) (ad : Nat → Nat) (Z : Nat → va_E) : va_W := (List.range n).map (fun k => (ad k, Z k))
def setl (Z : Nat → va_E) : List (Nat × va_E) → Nat → va_E
  | [], j => Z j
  | (k, c) :: l, j => if j = k then c else setl Z l j
theorem setl_out {Z : Nat → va_E} {is : List Nat} : ∀ {l : List (Nat × va_E)}, l.all (fun q => decide (q.1 ∈ is)) = true → ∀ k, k ∉ is → setl Z l k = Z k
  | [], _, k, _ => rfl
  | (k0, c) :: l, h, k, hk => by
    rw [List.all_cons, Bool.and_eq_true] at h
    have h0 : k0 ∈ is := of_decide_eq_true h.1
    have hne : k ≠ k0 := fun z => hk (z ▸ h0)
    exact (if_neg hne).trans (setl_out h.2 k hk)
section WZ
variable {n : Nat} {ad : Nat → Nat} {Z Z' : Nat → va_E} {is : List Nat} {wc tl : va_W}
theorem wz_k {k : Nat} (h : k < n) : (WZ n ad Z)[k]? = some (ad k, Z k) := by
  unfold WZ
  rw [List.getElem?_map, List.getElem?_range h]
  rfl
theorem wz_len : (WZ n ad Z).length = n := by
  unfold WZ
  rw [List.length_map, List.length_range]
theorem wz_al : (WZ n ad Z).map (fun q => q.1) = (List.range n).map ad := by
  unfold WZ
  rw [List.map_map]
  rfl
theorem wz_C (h : ∀ i ∈ is, i < n) (e : is.map (fun k => (ad k, Z k)) = wc) : is.map (fun i => (WZ n ad Z)[i]?) = wc.map some := by
  subst e
  rw [List.map_map]
  exact List.map_congr_left (fun i hi => wz_k (h i hi))
theorem wz_Ct (h : ∀ i ∈ is, i < n) (e : is.map (fun k => (ad k, Z k)) = wc) : is.map (fun i => (WZ n ad Z ++ tl)[i]?) = wc.map some := by
  rw [← wz_C h e]
  exact List.map_congr_left (fun i hi => List.getElem?_append_left (by rw [wz_len]; exact h i hi))
def wzr (n : Nat) (is : List Nat) : List Nat := (List.range n).filter (fun k => decide (k ∉ is))
theorem wz_r : ∀ i ∈ wzr n is, i < n := fun i hi => List.mem_range.mp (List.mem_filter.mp hi).1
theorem wz_Z (hZ : ∀ k, k ∉ is → Z' k = Z k) : (wzr n is).map (fun k => (ad k, Z' k)) = (wzr n is).map (fun k => (ad k, Z k)) := List.map_congr_left (fun k hk => by rw [hZ k (of_decide_eq_true (List.mem_filter.mp hk).2)])
theorem wz_cov : (List.range n).all (fun k => decide (k ∈ is) || decide (k ∈ wzr n is)) = true := by
  refine List.all_eq_true.mpr (fun k hk => ?_)
  by_cases h : k ∈ is
  · rw [decide_eq_true h]; rfl
  · have h2 : k ∈ wzr n is := List.mem_filter.mpr ⟨hk, decide_eq_true h⟩
    rw [decide_eq_true h2, Bool.or_true]
theorem wz_dis : (wzr n is).all (fun k => decide (k ∉ is)) = true := List.all_eq_true.mpr (fun k hk => (List.mem_filter.mp hk).2)
theorem zc_nil : ([] : List Nat).map (fun k => (ad k, Z k)) = ([] : va_W) := rfl
theorem zc_cons {k a : Nat} {c : va_E} (ha : ad k = a) (h : Z k = c) (t : is.map (fun k => (ad k, Z k)) = wc) : (k :: is).map (fun k => (ad k, Z k)) = (a, c) :: wc := by
  subst ha; subst h; subst t
  rfl
theorem zs {k : Nat} {c : va_E} (h : Z k = c) (e : Z' k = Z k) : Z' k = c := e.trans h
theorem wz_lt (h : is.all (fun k => decide (k < n)) = true) : ∀ i ∈ is, i < n := fun i hi => of_decide_eq_true (List.all_eq_true.mp h i hi)
end WZ
section II
variable {p : Program} {l : Launch} {e : Env} {R : Room} {s : State} {m : MethodId} {args : Array Value} {below : List Frame} {meth : Method} {c : Code} {cc : ByteArray} {own : String} {Ts : List Cond} {D : va_G} {tys : List (ClassId × FieldType)} {A : Nat → Prop} {nL cells slots : Nat} {Q : State → Prop} {ws ws' : va_W} {pc : Nat} {lv lv' : List (Nat × Value)} {st : List Value}
theorem ii_sld {b L : Nat} {xs : Nat → Int32} {i : Int32} (hX : va_X b L xs s s.heap) (hbl : b < s.heap.size) (hbA : ¬ A b) (hin : vp_in i L) (d : decode cc pc = .ok (.iaload, 1)) (k : WX p l e R s m args below meth c cc own Ts D tys A nL cells slots Q ws (pc + 1) lv (.int (xs i.toNatClampNeg) :: st)) : WX p l e R s m args below meth c cc own Ts D tys A nL cells slots Q ws pc lv (.int i :: .ref b :: st) := by
  intro C H locs ls hP hD hS hl
  obtain ⟨hx, hb, hml, hown, hts, hK, hlk, hA, hZ⟩ := id C
  exact va_sld hx hb hX hbl hbA hS hin d (k C H locs ls hP hD hS hl)
theorem ii_slen {b L : Nat} {xs : Nat → Int32} (hX : va_X b L xs s s.heap) (hbl : b < s.heap.size) (hbA : ¬ A b) (d : decode cc pc = .ok (.arraylength, 1)) (k : WX p l e R s m args below meth c cc own Ts D tys A nL cells slots Q ws (pc + 1) lv (.int (Int32.ofNat L) :: st)) : WX p l e R s m args below meth c cc own Ts D tys A nL cells slots Q ws pc lv (.ref b :: st) := by
  intro C H locs ls hP hD hS hl
  obtain ⟨hx, hb, hml, hown, hts, hK, hlk, hA, hZ⟩ := id C
  exact va_slen hx hb hX hbl hbA hS d (k C H locs ls hP hD hS hl)
theorem ii_callZi {y : MethodName} {wy wy' : List Cond} {bytes : ByteArray} {maxL n idx nW : Nat} {ret : Option FieldType} {rm : Room} {b ci N : Nat} {C : String} {T : u_T} {fs : List Value} {As sk : List Value} {ad : Nat → Nat} {Z : Nat → va_E} (Z' : Nat → va_E) {tl wc wc' : va_W} {r0 : Int32} (hc : CTi l y wy rm D tys (.ref b :: As) wc r0 wc') (hG : GoodIn Ts (wsV own idx C y wy)) (hw : wy = Cond.code y bytes maxL ret :: wy') (hrc : rm.cells = 0) (hrs : rm.slots = 0) (hd : y.cls = C ∧ y.cls ≠ "java/lang/invoke/MethodHandle" ∧ y.cls ≠ "java/lang/invoke/VarHandle" ∧ (parseMethodDescriptor y.desc).map (fun d => d.parameters.length) = some n) (hR : rm.frames + 1 ≤ R.frames ∧ 8 + (maxL + 11) + rm.locals ≤ R.locals) (hn : As.length = n) (q0 : Nat) (hq0 : q0 < nW) (hb0 : ad q0 = b) (he : Z q0 = .inr (ci, fs)) (hcl : vwCl[ci]? = some (C, T, N))
    (isC : List Nat) (hC : isC.map (fun k => (ad k, Z k)) = wc) (hC' : isC.map (fun k => (ad k, Z' k)) = wc') (hZ : ∀ k, k ∉ isC → Z' k = Z k) (hnd : va_nd isC = true) (hlt : isC.all (fun k => decide (k < nW)) = true) (hst : (st.map fun v => v.category).sum ≤ 8) (hcs : cells ≤ R.cells) (hss : slots ≤ R.slots) (hsk : sk = As.reverse ++ .ref b :: st) (d : decode cc pc = .ok (.invokevirtual idx, 3)) (kk : WX p l e R s m args below meth c cc own Ts D tys A nL cells slots Q (WZ nW ad Z' ++ tl) (pc + 3) lv (.int r0 :: st)) : WX p l e R s m args below meth c cc own Ts D tys A nL cells slots Q (WZ nW ad Z ++ tl) pc lv sk :=
  ii_callGi (B := WZ nW ad Z) (B' := WZ nW ad Z') (tl := tl) hc hG hw hrc hrs hd hR hn q0 (by rw [wz_k hq0, hb0, he]) hcl isC (wzr nW isC) (wz_C (wz_lt hlt) hC) (wz_C (wz_lt hlt) hC') hnd (wr := (wzr nW isC).map (fun k => (ad k, Z k))) (al := (List.range nW).map ad) (wz_C wz_r rfl) (wz_C wz_r (wz_Z hZ)) wz_al wz_al (nB := nW) wz_len wz_cov wz_dis hst hcs hss hsk d rfl rfl kk
theorem ii_callZl {y : MethodName} {wy wy' : List Cond} {bytes : ByteArray} {maxL n idx nW : Nat} {ret : Option FieldType} {rm : Room} {b ci N : Nat} {C : String} {T : u_T} {fs : List Value} {As sk : List Value} {ad : Nat → Nat} {Z : Nat → va_E} (Z' : Nat → va_E) {tl wc wc' : va_W} {r0 : Int64} (hc : CTl l y wy rm D tys (.ref b :: As) wc r0 wc') (hG : GoodIn Ts (wsV own idx C y wy)) (hw : wy = Cond.code y bytes maxL ret :: wy') (hrc : rm.cells = 0) (hrs : rm.slots = 0) (hd : y.cls = C ∧ y.cls ≠ "java/lang/invoke/MethodHandle" ∧ y.cls ≠ "java/lang/invoke/VarHandle" ∧ (parseMethodDescriptor y.desc).map (fun d => d.parameters.length) = some n) (hR : rm.frames + 1 ≤ R.frames ∧ 8 + (maxL + 11) + rm.locals ≤ R.locals) (hn : As.length = n) (q0 : Nat) (hq0 : q0 < nW) (hb0 : ad q0 = b) (he : Z q0 = .inr (ci, fs)) (hcl : vwCl[ci]? = some (C, T, N))
    (isC : List Nat) (hC : isC.map (fun k => (ad k, Z k)) = wc) (hC' : isC.map (fun k => (ad k, Z' k)) = wc') (hZ : ∀ k, k ∉ isC → Z' k = Z k) (hnd : va_nd isC = true) (hlt : isC.all (fun k => decide (k < nW)) = true) (hst : (st.map fun v => v.category).sum ≤ 8) (hcs : cells ≤ R.cells) (hss : slots ≤ R.slots) (hsk : sk = As.reverse ++ .ref b :: st) (d : decode cc pc = .ok (.invokevirtual idx, 3)) (kk : WX p l e R s m args below meth c cc own Ts D tys A nL cells slots Q (WZ nW ad Z' ++ tl) (pc + 3) lv (.long r0 :: st)) : WX p l e R s m args below meth c cc own Ts D tys A nL cells slots Q (WZ nW ad Z ++ tl) pc lv sk :=
  ii_callGl (B := WZ nW ad Z) (B' := WZ nW ad Z') (tl := tl) hc hG hw hrc hrs hd hR hn q0 (by rw [wz_k hq0, hb0, he]) hcl isC (wzr nW isC) (wz_C (wz_lt hlt) hC) (wz_C (wz_lt hlt) hC') hnd (wr := (wzr nW isC).map (fun k => (ad k, Z k))) (al := (List.range nW).map ad) (wz_C wz_r rfl) (wz_C wz_r (wz_Z hZ)) wz_al wz_al (nB := nW) wz_len wz_cov wz_dis hst hcs hss hsk d rfl rfl kk
end II
def tcZ (Z : Nat → va_E) : Nat → Nat → Int32 := fun t => arI (Z (if t < 13 then 3 + 2 * t else 1000 + t))
def trZ (Z : Nat → va_E) : Nat → Int32 := fun t => flI 3 (Z (if t < 13 then 2 + 2 * t else 1000 + t))
def jT (k : Nat) : Option Nat := if k = 3 then some 0 else if k = 5 then some 1 else if k = 7 then some 2 else if k = 9 then some 3 else if k = 11 then some 4 else if k = 13 then some 5 else if k = 15 then some 6 else if k = 17 then some 7 else if k = 19 then some 8 else if k = 21 then some 9 else if k = 23 then some 10 else if k = 25 then some 11 else if k = 27 then some 12 else none
def jR (k : Nat) : Option Nat := if k = 2 then some 0 else if k = 4 then some 1 else if k = 6 then some 2 else if k = 8 then some 3 else if k = 10 then some 4 else if k = 12 then some 5 else if k = 14 then some 6 else if k = 16 then some 7 else if k = 18 then some 8 else if k = 20 then some 9 else if k = 22 then some 10 else if k = 24 then some 11 else if k = 26 then some 12 else none
def plist {α : Type} (j : Nat → Option Nat) (a : va_E → α) (T : Nat → α) : List (Nat × va_E) → Nat → α
  | [] => T
  | (k, c) :: l => match j k with
    | some i => va_up (plist j a T l) i (a c)
    | none => plist j a T l
theorem plist_ok {α : Type} {j : Nat → Option Nat} {a : va_E → α} {gi : Nat → Nat} (h1 : ∀ k i, k < 79 → j k = some i → ∀ t, gi t = k ↔ t = i) (h2 : ∀ k, k < 79 → j k = none → ∀ t, gi t ≠ k) {Z : Nat → va_E} : ∀ {l : List (Nat × va_E)}, l.all (fun q => decide (q.1 < 79)) = true → (fun t => a (setl Z l (gi t))) = plist j a (fun t => a (Z (gi t))) l
  | [], _ => rfl
  | (k, c) :: l, h => by
    rw [List.all_cons, Bool.and_eq_true] at h
    have hk : k < 79 := of_decide_eq_true h.1
    have ih := plist_ok (a := a) h1 h2 (Z := Z) h.2
    show (fun t => a (if gi t = k then c else setl Z l (gi t))) = (match j k with | some i => va_up (plist j a (fun t => a (Z (gi t))) l) i (a c) | none => plist j a (fun t => a (Z (gi t))) l)
    rw [← ih]
    cases hj : j k with
    | some i =>
      funext t
      have h3 := h1 k i hk hj t
      show a (if gi t = k then c else setl Z l (gi t)) = (if t = i then a c else a (setl Z l (gi t)))
      by_cases ht : t = i
      · rw [if_pos (h3.mpr ht), if_pos ht]
      · rw [if_neg (fun z => ht (h3.mp z)), if_neg ht]
    | none =>
      funext t
      show a (if gi t = k then c else setl Z l (gi t)) = a (setl Z l (gi t))
      rw [if_neg (h2 k hk hj t)]
theorem jT_1 : ∀ k i, k < 79 → jT k = some i → ∀ t, (if t < 13 then 3 + 2 * t else 1000 + t) = k ↔ t = i := by
  intro k i hk h t
  have h00 : ∀ k, k < 79 → (jT k).all (fun i => decide (i < 13 ∧ k = 3 + 2 * i)) = true := by decide
  have h0 : ∀ k, k < 79 → ∀ i, jT k = some i → i < 13 ∧ k = 3 + 2 * i := by
    intro k hk i h
    have h2 := h00 k hk
    rw [h] at h2
    exact of_decide_eq_true h2
  obtain ⟨h1, h2⟩ := h0 k hk i h
  by_cases ht : t < 13
  · rw [if_pos ht]; omega
  · rw [if_neg ht]; omega
theorem jT_2 : ∀ k, k < 79 → jT k = none → ∀ t, (if t < 13 then 3 + 2 * t else 1000 + t) ≠ k := by
  intro k hk h t
  have h0 : ∀ k, k < 79 → (∃ i, i < 13 ∧ k = 3 + 2 * i) → jT k ≠ none := by decide
  by_cases ht : t < 13
  · rw [if_pos ht]; exact fun z => h0 k hk ⟨t, ht, z.symm⟩ h
  · rw [if_neg ht]; omega
theorem jR_1 : ∀ k i, k < 79 → jR k = some i → ∀ t, (if t < 13 then 2 + 2 * t else 1000 + t) = k ↔ t = i := by
  intro k i hk h t
  have h00 : ∀ k, k < 79 → (jR k).all (fun i => decide (i < 13 ∧ k = 2 + 2 * i)) = true := by decide
  have h0 : ∀ k, k < 79 → ∀ i, jR k = some i → i < 13 ∧ k = 2 + 2 * i := by
    intro k hk i h
    have h2 := h00 k hk
    rw [h] at h2
    exact of_decide_eq_true h2
  obtain ⟨h1, h2⟩ := h0 k hk i h
  by_cases ht : t < 13
  · rw [if_pos ht]; omega
  · rw [if_neg ht]; omega
theorem jR_2 : ∀ k, k < 79 → jR k = none → ∀ t, (if t < 13 then 2 + 2 * t else 1000 + t) ≠ k := by
  intro k hk h t
  have h0 : ∀ k, k < 79 → (∃ i, i < 13 ∧ k = 2 + 2 * i) → jR k ≠ none := by decide
  by_cases ht : t < 13
  · rw [if_pos ht]; exact fun z => h0 k hk ⟨t, ht, z.symm⟩ h
  · rw [if_neg ht]; omega
theorem tcZ_set {Z : Nat → va_E} {l : List (Nat × va_E)} (h : l.all (fun q => decide (q.1 < 79)) = true) : tcZ (setl Z l) = plist jT arI (tcZ Z) l := plist_ok jT_1 jT_2 h
theorem trZ_set {Z : Nat → va_E} {l : List (Nat × va_E)} (h : l.all (fun q => decide (q.1 < 79)) = true) : trZ (setl Z l) = plist jR (flI 3) (trZ Z) l := plist_ok jR_1 jR_2 h
def REl (cI cJ cZ cH : ClassId) (ad : Nat → Nat) : List (va_E → va_E) :=
  (fun c => .inr (11, [.ref (ad 1), .ref (ad 28), .ref (ad 29), .ref (ad 32), .ref (ad 34), .ref (ad 36), .ref (ad 44), .ref (ad 45), .ref (ad 49), .ref (ad 51), .ref (ad 55), .long (flL 11 c), .long (flL 12 c)])) ::
   (fun c => .inr (0, [.ref (ad 2), .ref (ad 4), .ref (ad 6), .ref (ad 8), .ref (ad 10), .ref (ad 12), .ref (ad 14), .ref (ad 16), .ref (ad 18), .ref (ad 20), .ref (ad 22), .ref (ad 24), .ref (ad 26), .int (flI 13 c), .int (flI 14 c)])) ::
   (fun c => .inr (8, [.int (2 : Int32), .int (10 : Int32), .ref (ad 3), .int (flI 3 c)])) ::
   (fun c => .inl (cI, 20, .inl (arI c))) ::
   (fun c => .inr (8, [.int (51 : Int32), .int (4 : Int32), .ref (ad 5), .int (flI 3 c)])) ::
   (fun c => .inl (cI, 204, .inl (arI c))) ::
   (fun c => .inr (8, [.int (104 : Int32), .int (16 : Int32), .ref (ad 7), .int (flI 3 c)])) ::
   (fun c => .inl (cI, 1664, .inl (arI c))) ::
   (fun c => .inr (8, [.int (7 : Int32), .int (40 : Int32), .ref (ad 9), .int (flI 3 c)])) ::
   (fun c => .inl (cI, 280, .inl (arI c))) ::
   (fun c => .inr (8, [.int (3 : Int32), .int (60 : Int32), .ref (ad 11), .int (flI 3 c)])) ::
   (fun c => .inl (cI, 180, .inl (arI c))) ::
   (fun c => .inr (8, [.int (13 : Int32), .int (3 : Int32), .ref (ad 13), .int (flI 3 c)])) ::
   (fun c => .inl (cI, 39, .inl (arI c))) ::
   (fun c => .inr (8, [.int (1 : Int32), .int (6 : Int32), .ref (ad 15), .int (flI 3 c)])) ::
   (fun c => .inl (cI, 6, .inl (arI c))) ::
   (fun c => .inr (8, [.int (3 : Int32), .int (12 : Int32), .ref (ad 17), .int (flI 3 c)])) ::
   (fun c => .inl (cI, 36, .inl (arI c))) ::
   (fun c => .inr (8, [.int (3 : Int32), .int (40 : Int32), .ref (ad 19), .int (flI 3 c)])) ::
   (fun c => .inl (cI, 120, .inl (arI c))) ::
   (fun c => .inr (8, [.int (5 : Int32), .int (30 : Int32), .ref (ad 21), .int (flI 3 c)])) ::
   (fun c => .inl (cI, 150, .inl (arI c))) ::
   (fun c => .inr (8, [.int (3 : Int32), .int (10 : Int32), .ref (ad 23), .int (flI 3 c)])) ::
   (fun c => .inl (cI, 30, .inl (arI c))) ::
   (fun c => .inr (8, [.int (3 : Int32), .int (6 : Int32), .ref (ad 25), .int (flI 3 c)])) ::
   (fun c => .inl (cI, 18, .inl (arI c))) ::
   (fun c => .inr (8, [.int (3 : Int32), .int (1 : Int32), .ref (ad 27), .int (flI 3 c)])) ::
   (fun c => .inl (cI, 3, .inl (arI c))) ::
   (fun c => .inl (cH, 2, .inr (.inr (.inr (.inr (arR c)))))) ::
   (fun c => .inr (7, [.ref (ad 30), .int (flI 1 c), .ref (ad 31), .int (flI 3 c), .int (flI 4 c), .int (flI 5 c), .int (flI 6 c), .int (flI 7 c), .int (flI 8 c), .int (flI 9 c)])) ::
   (fun c => .inl (cI, 50, .inl (arI c))) ::
   (fun c => .inl (cI, 50, .inl (arI c))) ::
   (fun c => .inr (1, [.ref (ad 1), .ref (ad 33), .int (flI 2 c), .int (flI 3 c), .int (flI 4 c), .int (flI 5 c), .int (flI 6 c), .long (flL 7 c)])) ::
   (fun c => .inl (cJ, 50, .inr (.inl (arL c)))) ::
   (fun c => .inr (2, [.ref (ad 1), .ref (ad 32), .ref (ad 35)])) ::
   (fun c => .inl (cJ, 100, .inr (.inl (arL c)))) ::
   (fun c => .inr (4, [.ref (ad 1), .ref (ad 34), .ref (ad 37), .ref (ad 38), .ref (ad 39), .ref (ad 40), .ref (ad 41), .ref (ad 42), .ref (ad 43)])) ::
   (fun c => .inl (cJ, 10, .inr (.inl (arL c)))) ::
   (fun c => .inl (cJ, 100, .inr (.inl (arL c)))) ::
   (fun c => .inl (cJ, 10, .inr (.inl (arL c)))) ::
   (fun c => .inl (cJ, 1024, .inr (.inl (arL c)))) ::
   (fun c => .inl (cI, 1024, .inl (arI c))) ::
   (fun c => .inl (cI, 10, .inl (arI c))) ::
   (fun c => .inl (cI, 10, .inl (arI c))) ::
   (fun c => .inr (9, [.ref (ad 1), .ref (ad 32)])) ::
   (fun c => .inr (10, [.ref (ad 1), .ref (ad 46), .ref (ad 47), .ref (ad 48)])) ::
   (fun c => .inl (cI, 9, .inl (arI c))) ::
   (fun c => .inl (cI, 9, .inl (arI c))) ::
   (fun c => .inl (cI, 512, .inl (arI c))) ::
   (fun c => .inr (6, [.ref (ad 1), .ref (ad 50)])) ::
   (fun c => .inl (cI, 30, .inl (arI c))) ::
   (fun c => .inr (3, [.ref (ad 1), .ref (ad 52), .ref (ad 53), .ref (ad 54)])) ::
   (fun c => .inl (cI, 10, .inl (arI c))) ::
   (fun c => .inl (cI, 10, .inl (arI c))) ::
   (fun c => .inl (cI, 10, .inl (arI c))) ::
   (fun c => .inr (5, [.long (flL 0 c), .int (flI 1 c), .ref (ad 1), .ref (ad 44), .ref (ad 56)])) ::
   (fun c => .inl (cJ, 54, .inr (.inl (arL c)))) ::
   (fun c => .inr (12, [.ref (ad 58), .ref (ad 59), .ref (ad 60), .long (flL 3 c), .long (flL 4 c), .int (flI 5 c), .ref (ad 61), .ref (ad 62), .int (flI 8 c), .ref (ad 63), .ref (ad 64), .ref (ad 65), .ref (ad 66), .ref (ad 67), .ref (ad 68), .ref (ad 69), .ref (ad 70), .ref (ad 71), .ref (ad 72), .ref (ad 73), .ref (ad 74), .ref (ad 75), .ref (ad 76), .ref (ad 77), .ref (ad 78)])) ::
   (fun c => .inl (cI, 1951, .inl (arI c))) ::
   (fun c => .inl (cI, 3902, .inl (arI c))) ::
   (fun c => .inl (cZ, 2, .inl (arI c))) ::
   (fun c => .inl (cI, 70, .inl (arI c))) ::
   (fun c => .inl (cI, 70, .inl (arI c))) ::
   (fun c => .inl (cI, 70, .inl (arI c))) ::
   (fun c => .inl (cJ, 70, .inr (.inl (arL c)))) ::
   (fun c => .inl (cJ, 5, .inr (.inl (arL c)))) ::
   (fun c => .inl (cJ, 10, .inr (.inl (arL c)))) ::
   (fun c => .inl (cJ, 1024, .inr (.inl (arL c)))) ::
   (fun c => .inl (cI, 1024, .inl (arI c))) ::
   (fun c => .inl (cZ, 100, .inl (arI c))) ::
   (fun c => .inl (cZ, 110, .inl (arI c))) ::
   (fun c => .inl (cI, 10, .inl (arI c))) ::
   (fun c => .inl (cI, 9, .inl (arI c))) ::
   (fun c => .inl (cJ, 512, .inr (.inl (arL c)))) ::
   (fun c => .inl (cJ, 512, .inr (.inl (arL c)))) ::
   (fun c => .inl (cI, 30, .inl (arI c))) ::
   (fun c => .inl (cI, 10, .inl (arI c))) ::
   (fun c => .inl (cI, 10, .inl (arI c))) ::
   (fun c => .inl (cJ, 54, .inr (.inl (arL c)))) :: []
def okS (cI cJ cZ cH : ClassId) (ad : Nat → Nat) (k : Nat) (c : va_E) : Prop := match (REl cI cJ cZ cH ad)[k]? with
  | some f => c = f c
  | none => True
def SHAPE (cI cJ cZ cH : ClassId) (ad : Nat → Nat) (Z : Nat → va_E) : Prop := ∀ k, okS cI cJ cZ cH ad k (Z k)
def allok (cI cJ cZ cH : ClassId) (ad : Nat → Nat) : List (Nat × va_E) → Prop
  | [] => True
  | q :: l => okS cI cJ cZ cH ad q.1 q.2 ∧ allok cI cJ cZ cH ad l
section SH
variable {cI cJ cZ cH : ClassId} {ad : Nat → Nat} {Z : Nat → va_E}
theorem ok_nil : allok cI cJ cZ cH ad [] := trivial
theorem ok_cons {k : Nat} {c : va_E} {l : List (Nat × va_E)} (h : okS cI cJ cZ cH ad k c) (t : allok cI cJ cZ cH ad l) : allok cI cJ cZ cH ad ((k, c) :: l) := ⟨h, t⟩
theorem SHAPE_set (h : SHAPE cI cJ cZ cH ad Z) : ∀ {l : List (Nat × va_E)}, allok cI cJ cZ cH ad l → SHAPE cI cJ cZ cH ad (setl Z l)
  | [], _ => h
  | (k0, c) :: l, t => by
    intro k
    show okS cI cJ cZ cH ad k (if k = k0 then c else setl Z l k)
    by_cases hk : k = k0
    · rw [if_pos hk, hk]; exact t.1
    · rw [if_neg hk]; exact SHAPE_set h t.2 k
theorem ok_0 {a0 : Int64} {a1 : Int64} : okS cI cJ cZ cH ad 0 (.inr (11, [.ref (ad 1), .ref (ad 28), .ref (ad 29), .ref (ad 32), .ref (ad 34), .ref (ad 36), .ref (ad 44), .ref (ad 45), .ref (ad 49), .ref (ad 51), .ref (ad 55), .long a0, .long a1])) := rfl
theorem sh_0 (h : SHAPE cI cJ cZ cH ad Z) : Z 0 = .inr (11, [.ref (ad 1), .ref (ad 28), .ref (ad 29), .ref (ad 32), .ref (ad 34), .ref (ad 36), .ref (ad 44), .ref (ad 45), .ref (ad 49), .ref (ad 51), .ref (ad 55), .long (flL 11 (Z 0)), .long (flL 12 (Z 0))]) := h 0
theorem ok_1 {a0 : Int32} {a1 : Int32} : okS cI cJ cZ cH ad 1 (.inr (0, [.ref (ad 2), .ref (ad 4), .ref (ad 6), .ref (ad 8), .ref (ad 10), .ref (ad 12), .ref (ad 14), .ref (ad 16), .ref (ad 18), .ref (ad 20), .ref (ad 22), .ref (ad 24), .ref (ad 26), .int a0, .int a1])) := rfl
theorem sh_1 (h : SHAPE cI cJ cZ cH ad Z) : Z 1 = .inr (0, [.ref (ad 2), .ref (ad 4), .ref (ad 6), .ref (ad 8), .ref (ad 10), .ref (ad 12), .ref (ad 14), .ref (ad 16), .ref (ad 18), .ref (ad 20), .ref (ad 22), .ref (ad 24), .ref (ad 26), .int (flI 13 (Z 1)), .int (flI 14 (Z 1))]) := h 1
theorem ok_2 {a0 : Int32} : okS cI cJ cZ cH ad 2 (.inr (8, [.int (2 : Int32), .int (10 : Int32), .ref (ad 3), .int a0])) := rfl
theorem sh_2 (h : SHAPE cI cJ cZ cH ad Z) : Z 2 = .inr (8, [.int (2 : Int32), .int (10 : Int32), .ref (ad 3), .int (trZ Z 0)]) := h 2
theorem ok_3 {a0 : Nat → Int32} : okS cI cJ cZ cH ad 3 (.inl (cI, 20, .inl a0)) := rfl
theorem sh_3 (h : SHAPE cI cJ cZ cH ad Z) : Z 3 = .inl (cI, 20, .inl (tcZ Z 0)) := h 3
theorem ok_4 {a0 : Int32} : okS cI cJ cZ cH ad 4 (.inr (8, [.int (51 : Int32), .int (4 : Int32), .ref (ad 5), .int a0])) := rfl
theorem sh_4 (h : SHAPE cI cJ cZ cH ad Z) : Z 4 = .inr (8, [.int (51 : Int32), .int (4 : Int32), .ref (ad 5), .int (trZ Z 1)]) := h 4
theorem ok_5 {a0 : Nat → Int32} : okS cI cJ cZ cH ad 5 (.inl (cI, 204, .inl a0)) := rfl
theorem sh_5 (h : SHAPE cI cJ cZ cH ad Z) : Z 5 = .inl (cI, 204, .inl (tcZ Z 1)) := h 5
theorem ok_6 {a0 : Int32} : okS cI cJ cZ cH ad 6 (.inr (8, [.int (104 : Int32), .int (16 : Int32), .ref (ad 7), .int a0])) := rfl
theorem sh_6 (h : SHAPE cI cJ cZ cH ad Z) : Z 6 = .inr (8, [.int (104 : Int32), .int (16 : Int32), .ref (ad 7), .int (trZ Z 2)]) := h 6
theorem ok_7 {a0 : Nat → Int32} : okS cI cJ cZ cH ad 7 (.inl (cI, 1664, .inl a0)) := rfl
theorem sh_7 (h : SHAPE cI cJ cZ cH ad Z) : Z 7 = .inl (cI, 1664, .inl (tcZ Z 2)) := h 7
theorem ok_8 {a0 : Int32} : okS cI cJ cZ cH ad 8 (.inr (8, [.int (7 : Int32), .int (40 : Int32), .ref (ad 9), .int a0])) := rfl
theorem sh_8 (h : SHAPE cI cJ cZ cH ad Z) : Z 8 = .inr (8, [.int (7 : Int32), .int (40 : Int32), .ref (ad 9), .int (trZ Z 3)]) := h 8
theorem ok_9 {a0 : Nat → Int32} : okS cI cJ cZ cH ad 9 (.inl (cI, 280, .inl a0)) := rfl
theorem sh_9 (h : SHAPE cI cJ cZ cH ad Z) : Z 9 = .inl (cI, 280, .inl (tcZ Z 3)) := h 9
theorem ok_10 {a0 : Int32} : okS cI cJ cZ cH ad 10 (.inr (8, [.int (3 : Int32), .int (60 : Int32), .ref (ad 11), .int a0])) := rfl
theorem sh_10 (h : SHAPE cI cJ cZ cH ad Z) : Z 10 = .inr (8, [.int (3 : Int32), .int (60 : Int32), .ref (ad 11), .int (trZ Z 4)]) := h 10
theorem ok_11 {a0 : Nat → Int32} : okS cI cJ cZ cH ad 11 (.inl (cI, 180, .inl a0)) := rfl
theorem sh_11 (h : SHAPE cI cJ cZ cH ad Z) : Z 11 = .inl (cI, 180, .inl (tcZ Z 4)) := h 11
theorem ok_12 {a0 : Int32} : okS cI cJ cZ cH ad 12 (.inr (8, [.int (13 : Int32), .int (3 : Int32), .ref (ad 13), .int a0])) := rfl
theorem sh_12 (h : SHAPE cI cJ cZ cH ad Z) : Z 12 = .inr (8, [.int (13 : Int32), .int (3 : Int32), .ref (ad 13), .int (trZ Z 5)]) := h 12
theorem ok_13 {a0 : Nat → Int32} : okS cI cJ cZ cH ad 13 (.inl (cI, 39, .inl a0)) := rfl
theorem sh_13 (h : SHAPE cI cJ cZ cH ad Z) : Z 13 = .inl (cI, 39, .inl (tcZ Z 5)) := h 13
theorem ok_14 {a0 : Int32} : okS cI cJ cZ cH ad 14 (.inr (8, [.int (1 : Int32), .int (6 : Int32), .ref (ad 15), .int a0])) := rfl
theorem sh_14 (h : SHAPE cI cJ cZ cH ad Z) : Z 14 = .inr (8, [.int (1 : Int32), .int (6 : Int32), .ref (ad 15), .int (trZ Z 6)]) := h 14
theorem ok_15 {a0 : Nat → Int32} : okS cI cJ cZ cH ad 15 (.inl (cI, 6, .inl a0)) := rfl
theorem sh_15 (h : SHAPE cI cJ cZ cH ad Z) : Z 15 = .inl (cI, 6, .inl (tcZ Z 6)) := h 15
theorem ok_16 {a0 : Int32} : okS cI cJ cZ cH ad 16 (.inr (8, [.int (3 : Int32), .int (12 : Int32), .ref (ad 17), .int a0])) := rfl
theorem sh_16 (h : SHAPE cI cJ cZ cH ad Z) : Z 16 = .inr (8, [.int (3 : Int32), .int (12 : Int32), .ref (ad 17), .int (trZ Z 7)]) := h 16
theorem ok_17 {a0 : Nat → Int32} : okS cI cJ cZ cH ad 17 (.inl (cI, 36, .inl a0)) := rfl
theorem sh_17 (h : SHAPE cI cJ cZ cH ad Z) : Z 17 = .inl (cI, 36, .inl (tcZ Z 7)) := h 17
theorem ok_18 {a0 : Int32} : okS cI cJ cZ cH ad 18 (.inr (8, [.int (3 : Int32), .int (40 : Int32), .ref (ad 19), .int a0])) := rfl
theorem sh_18 (h : SHAPE cI cJ cZ cH ad Z) : Z 18 = .inr (8, [.int (3 : Int32), .int (40 : Int32), .ref (ad 19), .int (trZ Z 8)]) := h 18
theorem ok_19 {a0 : Nat → Int32} : okS cI cJ cZ cH ad 19 (.inl (cI, 120, .inl a0)) := rfl
theorem sh_19 (h : SHAPE cI cJ cZ cH ad Z) : Z 19 = .inl (cI, 120, .inl (tcZ Z 8)) := h 19
theorem ok_20 {a0 : Int32} : okS cI cJ cZ cH ad 20 (.inr (8, [.int (5 : Int32), .int (30 : Int32), .ref (ad 21), .int a0])) := rfl
theorem sh_20 (h : SHAPE cI cJ cZ cH ad Z) : Z 20 = .inr (8, [.int (5 : Int32), .int (30 : Int32), .ref (ad 21), .int (trZ Z 9)]) := h 20
theorem ok_21 {a0 : Nat → Int32} : okS cI cJ cZ cH ad 21 (.inl (cI, 150, .inl a0)) := rfl
theorem sh_21 (h : SHAPE cI cJ cZ cH ad Z) : Z 21 = .inl (cI, 150, .inl (tcZ Z 9)) := h 21
theorem ok_22 {a0 : Int32} : okS cI cJ cZ cH ad 22 (.inr (8, [.int (3 : Int32), .int (10 : Int32), .ref (ad 23), .int a0])) := rfl
theorem sh_22 (h : SHAPE cI cJ cZ cH ad Z) : Z 22 = .inr (8, [.int (3 : Int32), .int (10 : Int32), .ref (ad 23), .int (trZ Z 10)]) := h 22
theorem ok_23 {a0 : Nat → Int32} : okS cI cJ cZ cH ad 23 (.inl (cI, 30, .inl a0)) := rfl
theorem sh_23 (h : SHAPE cI cJ cZ cH ad Z) : Z 23 = .inl (cI, 30, .inl (tcZ Z 10)) := h 23
theorem ok_24 {a0 : Int32} : okS cI cJ cZ cH ad 24 (.inr (8, [.int (3 : Int32), .int (6 : Int32), .ref (ad 25), .int a0])) := rfl
theorem sh_24 (h : SHAPE cI cJ cZ cH ad Z) : Z 24 = .inr (8, [.int (3 : Int32), .int (6 : Int32), .ref (ad 25), .int (trZ Z 11)]) := h 24
theorem ok_25 {a0 : Nat → Int32} : okS cI cJ cZ cH ad 25 (.inl (cI, 18, .inl a0)) := rfl
theorem sh_25 (h : SHAPE cI cJ cZ cH ad Z) : Z 25 = .inl (cI, 18, .inl (tcZ Z 11)) := h 25
theorem ok_26 {a0 : Int32} : okS cI cJ cZ cH ad 26 (.inr (8, [.int (3 : Int32), .int (1 : Int32), .ref (ad 27), .int a0])) := rfl
theorem sh_26 (h : SHAPE cI cJ cZ cH ad Z) : Z 26 = .inr (8, [.int (3 : Int32), .int (1 : Int32), .ref (ad 27), .int (trZ Z 12)]) := h 26
theorem ok_27 {a0 : Nat → Int32} : okS cI cJ cZ cH ad 27 (.inl (cI, 3, .inl a0)) := rfl
theorem sh_27 (h : SHAPE cI cJ cZ cH ad Z) : Z 27 = .inl (cI, 3, .inl (tcZ Z 12)) := h 27
theorem ok_28 {a0 : Nat → Option Nat} : okS cI cJ cZ cH ad 28 (.inl (cH, 2, .inr (.inr (.inr (.inr a0))))) := rfl
theorem sh_28 (h : SHAPE cI cJ cZ cH ad Z) : Z 28 = .inl (cH, 2, .inr (.inr (.inr (.inr (arR (Z 28)))))) := h 28
theorem ok_29 {a0 : Int32} {a1 : Int32} {a2 : Int32} {a3 : Int32} {a4 : Int32} {a5 : Int32} {a6 : Int32} {a7 : Int32} : okS cI cJ cZ cH ad 29 (.inr (7, [.ref (ad 30), .int a0, .ref (ad 31), .int a1, .int a2, .int a3, .int a4, .int a5, .int a6, .int a7])) := rfl
theorem sh_29 (h : SHAPE cI cJ cZ cH ad Z) : Z 29 = .inr (7, [.ref (ad 30), .int (flI 1 (Z 29)), .ref (ad 31), .int (flI 3 (Z 29)), .int (flI 4 (Z 29)), .int (flI 5 (Z 29)), .int (flI 6 (Z 29)), .int (flI 7 (Z 29)), .int (flI 8 (Z 29)), .int (flI 9 (Z 29))]) := h 29
theorem ok_30 {a0 : Nat → Int32} : okS cI cJ cZ cH ad 30 (.inl (cI, 50, .inl a0)) := rfl
theorem sh_30 (h : SHAPE cI cJ cZ cH ad Z) : Z 30 = .inl (cI, 50, .inl (arI (Z 30))) := h 30
theorem ok_31 {a0 : Nat → Int32} : okS cI cJ cZ cH ad 31 (.inl (cI, 50, .inl a0)) := rfl
theorem sh_31 (h : SHAPE cI cJ cZ cH ad Z) : Z 31 = .inl (cI, 50, .inl (arI (Z 31))) := h 31
theorem ok_32 {a0 : Int32} {a1 : Int32} {a2 : Int32} {a3 : Int32} {a4 : Int32} {a5 : Int64} : okS cI cJ cZ cH ad 32 (.inr (1, [.ref (ad 1), .ref (ad 33), .int a0, .int a1, .int a2, .int a3, .int a4, .long a5])) := rfl
theorem sh_32 (h : SHAPE cI cJ cZ cH ad Z) : Z 32 = .inr (1, [.ref (ad 1), .ref (ad 33), .int (flI 2 (Z 32)), .int (flI 3 (Z 32)), .int (flI 4 (Z 32)), .int (flI 5 (Z 32)), .int (flI 6 (Z 32)), .long (flL 7 (Z 32))]) := h 32
theorem ok_33 {a0 : Nat → Int64} : okS cI cJ cZ cH ad 33 (.inl (cJ, 50, .inr (.inl a0))) := rfl
theorem sh_33 (h : SHAPE cI cJ cZ cH ad Z) : Z 33 = .inl (cJ, 50, .inr (.inl (arL (Z 33)))) := h 33
theorem ok_34  : okS cI cJ cZ cH ad 34 (.inr (2, [.ref (ad 1), .ref (ad 32), .ref (ad 35)])) := rfl
theorem sh_34 (h : SHAPE cI cJ cZ cH ad Z) : Z 34 = .inr (2, [.ref (ad 1), .ref (ad 32), .ref (ad 35)]) := h 34
theorem ok_35 {a0 : Nat → Int64} : okS cI cJ cZ cH ad 35 (.inl (cJ, 100, .inr (.inl a0))) := rfl
theorem sh_35 (h : SHAPE cI cJ cZ cH ad Z) : Z 35 = .inl (cJ, 100, .inr (.inl (arL (Z 35)))) := h 35
theorem ok_36  : okS cI cJ cZ cH ad 36 (.inr (4, [.ref (ad 1), .ref (ad 34), .ref (ad 37), .ref (ad 38), .ref (ad 39), .ref (ad 40), .ref (ad 41), .ref (ad 42), .ref (ad 43)])) := rfl
theorem sh_36 (h : SHAPE cI cJ cZ cH ad Z) : Z 36 = .inr (4, [.ref (ad 1), .ref (ad 34), .ref (ad 37), .ref (ad 38), .ref (ad 39), .ref (ad 40), .ref (ad 41), .ref (ad 42), .ref (ad 43)]) := h 36
theorem ok_37 {a0 : Nat → Int64} : okS cI cJ cZ cH ad 37 (.inl (cJ, 10, .inr (.inl a0))) := rfl
theorem sh_37 (h : SHAPE cI cJ cZ cH ad Z) : Z 37 = .inl (cJ, 10, .inr (.inl (arL (Z 37)))) := h 37
theorem ok_38 {a0 : Nat → Int64} : okS cI cJ cZ cH ad 38 (.inl (cJ, 100, .inr (.inl a0))) := rfl
theorem sh_38 (h : SHAPE cI cJ cZ cH ad Z) : Z 38 = .inl (cJ, 100, .inr (.inl (arL (Z 38)))) := h 38
theorem ok_39 {a0 : Nat → Int64} : okS cI cJ cZ cH ad 39 (.inl (cJ, 10, .inr (.inl a0))) := rfl
theorem sh_39 (h : SHAPE cI cJ cZ cH ad Z) : Z 39 = .inl (cJ, 10, .inr (.inl (arL (Z 39)))) := h 39
theorem ok_40 {a0 : Nat → Int64} : okS cI cJ cZ cH ad 40 (.inl (cJ, 1024, .inr (.inl a0))) := rfl
theorem sh_40 (h : SHAPE cI cJ cZ cH ad Z) : Z 40 = .inl (cJ, 1024, .inr (.inl (arL (Z 40)))) := h 40
theorem ok_41 {a0 : Nat → Int32} : okS cI cJ cZ cH ad 41 (.inl (cI, 1024, .inl a0)) := rfl
theorem sh_41 (h : SHAPE cI cJ cZ cH ad Z) : Z 41 = .inl (cI, 1024, .inl (arI (Z 41))) := h 41
theorem ok_42 {a0 : Nat → Int32} : okS cI cJ cZ cH ad 42 (.inl (cI, 10, .inl a0)) := rfl
theorem sh_42 (h : SHAPE cI cJ cZ cH ad Z) : Z 42 = .inl (cI, 10, .inl (arI (Z 42))) := h 42
theorem ok_43 {a0 : Nat → Int32} : okS cI cJ cZ cH ad 43 (.inl (cI, 10, .inl a0)) := rfl
theorem sh_43 (h : SHAPE cI cJ cZ cH ad Z) : Z 43 = .inl (cI, 10, .inl (arI (Z 43))) := h 43
theorem ok_44  : okS cI cJ cZ cH ad 44 (.inr (9, [.ref (ad 1), .ref (ad 32)])) := rfl
theorem sh_44 (h : SHAPE cI cJ cZ cH ad Z) : Z 44 = .inr (9, [.ref (ad 1), .ref (ad 32)]) := h 44
theorem ok_45  : okS cI cJ cZ cH ad 45 (.inr (10, [.ref (ad 1), .ref (ad 46), .ref (ad 47), .ref (ad 48)])) := rfl
theorem sh_45 (h : SHAPE cI cJ cZ cH ad Z) : Z 45 = .inr (10, [.ref (ad 1), .ref (ad 46), .ref (ad 47), .ref (ad 48)]) := h 45
theorem ok_46 {a0 : Nat → Int32} : okS cI cJ cZ cH ad 46 (.inl (cI, 9, .inl a0)) := rfl
theorem sh_46 (h : SHAPE cI cJ cZ cH ad Z) : Z 46 = .inl (cI, 9, .inl (arI (Z 46))) := h 46
theorem ok_47 {a0 : Nat → Int32} : okS cI cJ cZ cH ad 47 (.inl (cI, 9, .inl a0)) := rfl
theorem sh_47 (h : SHAPE cI cJ cZ cH ad Z) : Z 47 = .inl (cI, 9, .inl (arI (Z 47))) := h 47
theorem ok_48 {a0 : Nat → Int32} : okS cI cJ cZ cH ad 48 (.inl (cI, 512, .inl a0)) := rfl
theorem sh_48 (h : SHAPE cI cJ cZ cH ad Z) : Z 48 = .inl (cI, 512, .inl (arI (Z 48))) := h 48
theorem ok_49  : okS cI cJ cZ cH ad 49 (.inr (6, [.ref (ad 1), .ref (ad 50)])) := rfl
theorem sh_49 (h : SHAPE cI cJ cZ cH ad Z) : Z 49 = .inr (6, [.ref (ad 1), .ref (ad 50)]) := h 49
theorem ok_50 {a0 : Nat → Int32} : okS cI cJ cZ cH ad 50 (.inl (cI, 30, .inl a0)) := rfl
theorem sh_50 (h : SHAPE cI cJ cZ cH ad Z) : Z 50 = .inl (cI, 30, .inl (arI (Z 50))) := h 50
theorem ok_51  : okS cI cJ cZ cH ad 51 (.inr (3, [.ref (ad 1), .ref (ad 52), .ref (ad 53), .ref (ad 54)])) := rfl
theorem sh_51 (h : SHAPE cI cJ cZ cH ad Z) : Z 51 = .inr (3, [.ref (ad 1), .ref (ad 52), .ref (ad 53), .ref (ad 54)]) := h 51
theorem ok_52 {a0 : Nat → Int32} : okS cI cJ cZ cH ad 52 (.inl (cI, 10, .inl a0)) := rfl
theorem sh_52 (h : SHAPE cI cJ cZ cH ad Z) : Z 52 = .inl (cI, 10, .inl (arI (Z 52))) := h 52
theorem ok_53 {a0 : Nat → Int32} : okS cI cJ cZ cH ad 53 (.inl (cI, 10, .inl a0)) := rfl
theorem sh_53 (h : SHAPE cI cJ cZ cH ad Z) : Z 53 = .inl (cI, 10, .inl (arI (Z 53))) := h 53
theorem ok_54 {a0 : Nat → Int32} : okS cI cJ cZ cH ad 54 (.inl (cI, 10, .inl a0)) := rfl
theorem sh_54 (h : SHAPE cI cJ cZ cH ad Z) : Z 54 = .inl (cI, 10, .inl (arI (Z 54))) := h 54
theorem ok_55 {a0 : Int64} {a1 : Int32} : okS cI cJ cZ cH ad 55 (.inr (5, [.long a0, .int a1, .ref (ad 1), .ref (ad 44), .ref (ad 56)])) := rfl
theorem sh_55 (h : SHAPE cI cJ cZ cH ad Z) : Z 55 = .inr (5, [.long (flL 0 (Z 55)), .int (flI 1 (Z 55)), .ref (ad 1), .ref (ad 44), .ref (ad 56)]) := h 55
theorem ok_56 {a0 : Nat → Int64} : okS cI cJ cZ cH ad 56 (.inl (cJ, 54, .inr (.inl a0))) := rfl
theorem sh_56 (h : SHAPE cI cJ cZ cH ad Z) : Z 56 = .inl (cJ, 54, .inr (.inl (arL (Z 56)))) := h 56
theorem ok_57 {a0 : Int64} {a1 : Int64} {a2 : Int32} {a3 : Int32} : okS cI cJ cZ cH ad 57 (.inr (12, [.ref (ad 58), .ref (ad 59), .ref (ad 60), .long a0, .long a1, .int a2, .ref (ad 61), .ref (ad 62), .int a3, .ref (ad 63), .ref (ad 64), .ref (ad 65), .ref (ad 66), .ref (ad 67), .ref (ad 68), .ref (ad 69), .ref (ad 70), .ref (ad 71), .ref (ad 72), .ref (ad 73), .ref (ad 74), .ref (ad 75), .ref (ad 76), .ref (ad 77), .ref (ad 78)])) := rfl
theorem sh_57 (h : SHAPE cI cJ cZ cH ad Z) : Z 57 = .inr (12, [.ref (ad 58), .ref (ad 59), .ref (ad 60), .long (flL 3 (Z 57)), .long (flL 4 (Z 57)), .int (flI 5 (Z 57)), .ref (ad 61), .ref (ad 62), .int (flI 8 (Z 57)), .ref (ad 63), .ref (ad 64), .ref (ad 65), .ref (ad 66), .ref (ad 67), .ref (ad 68), .ref (ad 69), .ref (ad 70), .ref (ad 71), .ref (ad 72), .ref (ad 73), .ref (ad 74), .ref (ad 75), .ref (ad 76), .ref (ad 77), .ref (ad 78)]) := h 57
theorem ok_58 {a0 : Nat → Int32} : okS cI cJ cZ cH ad 58 (.inl (cI, 1951, .inl a0)) := rfl
theorem sh_58 (h : SHAPE cI cJ cZ cH ad Z) : Z 58 = .inl (cI, 1951, .inl (arI (Z 58))) := h 58
theorem ok_59 {a0 : Nat → Int32} : okS cI cJ cZ cH ad 59 (.inl (cI, 3902, .inl a0)) := rfl
theorem sh_59 (h : SHAPE cI cJ cZ cH ad Z) : Z 59 = .inl (cI, 3902, .inl (arI (Z 59))) := h 59
theorem ok_60 {a0 : Nat → Int32} : okS cI cJ cZ cH ad 60 (.inl (cZ, 2, .inl a0)) := rfl
theorem sh_60 (h : SHAPE cI cJ cZ cH ad Z) : Z 60 = .inl (cZ, 2, .inl (arI (Z 60))) := h 60
theorem ok_61 {a0 : Nat → Int32} : okS cI cJ cZ cH ad 61 (.inl (cI, 70, .inl a0)) := rfl
theorem sh_61 (h : SHAPE cI cJ cZ cH ad Z) : Z 61 = .inl (cI, 70, .inl (arI (Z 61))) := h 61
theorem ok_62 {a0 : Nat → Int32} : okS cI cJ cZ cH ad 62 (.inl (cI, 70, .inl a0)) := rfl
theorem sh_62 (h : SHAPE cI cJ cZ cH ad Z) : Z 62 = .inl (cI, 70, .inl (arI (Z 62))) := h 62
theorem ok_63 {a0 : Nat → Int32} : okS cI cJ cZ cH ad 63 (.inl (cI, 70, .inl a0)) := rfl
theorem sh_63 (h : SHAPE cI cJ cZ cH ad Z) : Z 63 = .inl (cI, 70, .inl (arI (Z 63))) := h 63
theorem ok_64 {a0 : Nat → Int64} : okS cI cJ cZ cH ad 64 (.inl (cJ, 70, .inr (.inl a0))) := rfl
theorem sh_64 (h : SHAPE cI cJ cZ cH ad Z) : Z 64 = .inl (cJ, 70, .inr (.inl (arL (Z 64)))) := h 64
theorem ok_65 {a0 : Nat → Int64} : okS cI cJ cZ cH ad 65 (.inl (cJ, 5, .inr (.inl a0))) := rfl
theorem sh_65 (h : SHAPE cI cJ cZ cH ad Z) : Z 65 = .inl (cJ, 5, .inr (.inl (arL (Z 65)))) := h 65
theorem ok_66 {a0 : Nat → Int64} : okS cI cJ cZ cH ad 66 (.inl (cJ, 10, .inr (.inl a0))) := rfl
theorem sh_66 (h : SHAPE cI cJ cZ cH ad Z) : Z 66 = .inl (cJ, 10, .inr (.inl (arL (Z 66)))) := h 66
theorem ok_67 {a0 : Nat → Int64} : okS cI cJ cZ cH ad 67 (.inl (cJ, 1024, .inr (.inl a0))) := rfl
theorem sh_67 (h : SHAPE cI cJ cZ cH ad Z) : Z 67 = .inl (cJ, 1024, .inr (.inl (arL (Z 67)))) := h 67
theorem ok_68 {a0 : Nat → Int32} : okS cI cJ cZ cH ad 68 (.inl (cI, 1024, .inl a0)) := rfl
theorem sh_68 (h : SHAPE cI cJ cZ cH ad Z) : Z 68 = .inl (cI, 1024, .inl (arI (Z 68))) := h 68
theorem ok_69 {a0 : Nat → Int32} : okS cI cJ cZ cH ad 69 (.inl (cZ, 100, .inl a0)) := rfl
theorem sh_69 (h : SHAPE cI cJ cZ cH ad Z) : Z 69 = .inl (cZ, 100, .inl (arI (Z 69))) := h 69
theorem ok_70 {a0 : Nat → Int32} : okS cI cJ cZ cH ad 70 (.inl (cZ, 110, .inl a0)) := rfl
theorem sh_70 (h : SHAPE cI cJ cZ cH ad Z) : Z 70 = .inl (cZ, 110, .inl (arI (Z 70))) := h 70
theorem ok_71 {a0 : Nat → Int32} : okS cI cJ cZ cH ad 71 (.inl (cI, 10, .inl a0)) := rfl
theorem sh_71 (h : SHAPE cI cJ cZ cH ad Z) : Z 71 = .inl (cI, 10, .inl (arI (Z 71))) := h 71
theorem ok_72 {a0 : Nat → Int32} : okS cI cJ cZ cH ad 72 (.inl (cI, 9, .inl a0)) := rfl
theorem sh_72 (h : SHAPE cI cJ cZ cH ad Z) : Z 72 = .inl (cI, 9, .inl (arI (Z 72))) := h 72
theorem ok_73 {a0 : Nat → Int64} : okS cI cJ cZ cH ad 73 (.inl (cJ, 512, .inr (.inl a0))) := rfl
theorem sh_73 (h : SHAPE cI cJ cZ cH ad Z) : Z 73 = .inl (cJ, 512, .inr (.inl (arL (Z 73)))) := h 73
theorem ok_74 {a0 : Nat → Int64} : okS cI cJ cZ cH ad 74 (.inl (cJ, 512, .inr (.inl a0))) := rfl
theorem sh_74 (h : SHAPE cI cJ cZ cH ad Z) : Z 74 = .inl (cJ, 512, .inr (.inl (arL (Z 74)))) := h 74
theorem ok_75 {a0 : Nat → Int32} : okS cI cJ cZ cH ad 75 (.inl (cI, 30, .inl a0)) := rfl
theorem sh_75 (h : SHAPE cI cJ cZ cH ad Z) : Z 75 = .inl (cI, 30, .inl (arI (Z 75))) := h 75
theorem ok_76 {a0 : Nat → Int32} : okS cI cJ cZ cH ad 76 (.inl (cI, 10, .inl a0)) := rfl
theorem sh_76 (h : SHAPE cI cJ cZ cH ad Z) : Z 76 = .inl (cI, 10, .inl (arI (Z 76))) := h 76
theorem ok_77 {a0 : Nat → Int32} : okS cI cJ cZ cH ad 77 (.inl (cI, 10, .inl a0)) := rfl
theorem sh_77 (h : SHAPE cI cJ cZ cH ad Z) : Z 77 = .inl (cI, 10, .inl (arI (Z 77))) := h 77
theorem ok_78 {a0 : Nat → Int64} : okS cI cJ cZ cH ad 78 (.inl (cJ, 54, .inr (.inl a0))) := rfl
theorem sh_78 (h : SHAPE cI cJ cZ cH ad Z) : Z 78 = .inl (cJ, 54, .inr (.inl (arL (Z 78)))) := h 78
theorem sh_57a (h : SHAPE cI cJ cZ cH ad Z) (h1 : (flL 11 (Z 0)) = (flL 3 (Z 57))) (h2 : (flL 12 (Z 0)) = (flL 4 (Z 57))) : Z 57 = .inr (12, [.ref (ad 58), .ref (ad 59), .ref (ad 60), .long (flL 11 (Z 0)), .long (flL 12 (Z 0)), .int (flI 5 (Z 57)), .ref (ad 61), .ref (ad 62), .int (flI 8 (Z 57)), .ref (ad 63), .ref (ad 64), .ref (ad 65), .ref (ad 66), .ref (ad 67), .ref (ad 68), .ref (ad 69), .ref (ad 70), .ref (ad 71), .ref (ad 72), .ref (ad 73), .ref (ad 74), .ref (ad 75), .ref (ad 76), .ref (ad 77), .ref (ad 78)]) := by
  rw [h1, h2]
  exact sh_57 h
end SH
def HZ (cI : ClassId) (hd : Nat → Nat) (tc : Nat → Nat → Int32) (tr : Nat → Int32) (nar nam : Int32) (k : Nat) : va_E := ([.inr (0, [.ref (hd 1), .ref (hd 3), .ref (hd 5), .ref (hd 7), .ref (hd 9), .ref (hd 11), .ref (hd 13), .ref (hd 15), .ref (hd 17), .ref (hd 19), .ref (hd 21), .ref (hd 23), .ref (hd 25), .int nar, .int nam]), .inr (8, [.int (2 : Int32), .int (10 : Int32), .ref (hd 2), .int (tr 0)]), .inl (cI, 20, .inl (tc 0)), .inr (8, [.int (51 : Int32), .int (4 : Int32), .ref (hd 4), .int (tr 1)]), .inl (cI, 204, .inl (tc 1)), .inr (8, [.int (104 : Int32), .int (16 : Int32), .ref (hd 6), .int (tr 2)]), .inl (cI, 1664, .inl (tc 2)), .inr (8, [.int (7 : Int32), .int (40 : Int32), .ref (hd 8), .int (tr 3)]), .inl (cI, 280, .inl (tc 3)), .inr (8, [.int (3 : Int32), .int (60 : Int32), .ref (hd 10), .int (tr 4)]), .inl (cI, 180, .inl (tc 4)), .inr (8, [.int (13 : Int32), .int (3 : Int32), .ref (hd 12), .int (tr 5)]), .inl (cI, 39, .inl (tc 5)), .inr (8, [.int (1 : Int32), .int (6 : Int32), .ref (hd 14), .int (tr 6)]), .inl (cI, 6, .inl (tc 6)), .inr (8, [.int (3 : Int32), .int (12 : Int32), .ref (hd 16), .int (tr 7)]), .inl (cI, 36, .inl (tc 7)), .inr (8, [.int (3 : Int32), .int (40 : Int32), .ref (hd 18), .int (tr 8)]), .inl (cI, 120, .inl (tc 8)), .inr (8, [.int (5 : Int32), .int (30 : Int32), .ref (hd 20), .int (tr 9)]), .inl (cI, 150, .inl (tc 9)), .inr (8, [.int (3 : Int32), .int (10 : Int32), .ref (hd 22), .int (tr 10)]), .inl (cI, 30, .inl (tc 10)), .inr (8, [.int (3 : Int32), .int (6 : Int32), .ref (hd 24), .int (tr 11)]), .inl (cI, 18, .inl (tc 11)), .inr (8, [.int (3 : Int32), .int (1 : Int32), .ref (hd 26), .int (tr 12)]), .inl (cI, 3, .inl (tc 12))] : List va_E)[k]?.getD (.inr (0, []))
abbrev HO : Type := Option ((Nat → Nat) × (Nat → Nat → Int32) × (Nat → Int32) × Int32 × Int32)
def HBo (cI : ClassId) : HO → va_W
  | none => []
  | some (hd, tc, tr, nar, nam) => WZ 27 hd (HZ cI hd tc tr nar nam)
def IMp (z : Nat) (o : HO) (imgs : Nat → Option Nat) (im kp : Nat → Int32) : Prop := match o with
  | none => imgs z = none ∧ kp z = 0
  | some (hd, tc, tr, nar, nam) => imgs z = some (hd 0) ∧ kp z = 1 ∧ Rel actK tc tr nar nam (fun k => im (1951 * z + k))
def IMG (cI : ClassId) (tl : va_W) (imgs : Nat → Option Nat) (im kp : Nat → Int32) : Prop := ∃ (o : Nat → HO) (z : Nat), z < 2 ∧ tl = HBo cI (o z) ++ HBo cI (o (1 - z)) ∧ ∀ k, k < 2 → IMp k (o k) imgs im kp
def fr (imgs : Nat → Option Nat) (z : Nat) : Nat := match imgs z with
  | none => 1
  | some _ => 0
def LawZ (cI cJ cZ cH : ClassId) (ad : Nat → Nat) (tl : va_W) (Z : Nat → va_E) : Prop := SHAPE cI cJ cZ cH ad Z ∧ Rel actK (tcZ Z) (trZ Z) (flI 13 (Z 1)) (flI 14 (Z 1)) (arI (Z 58)) ∧ (arI (Z 41)) 0 = 0 ∧ (arL (Z 40)) 0 = 0 ∧ (arI (Z 68)) 0 = 0 ∧ (flL 11 (Z 0)) = (flL 3 (Z 57)) ∧ (flL 12 (Z 0)) = (flL 4 (Z 57)) ∧ IMG cI tl (arR (Z 28)) (arI (Z 59)) (arI (Z 60))
def LawS (cI cJ cZ cH : ClassId) (ad : Nat → Nat) (cells slots : Nat) (ws : va_W) : Prop := ∃ (Z : Nat → va_E) (tl : va_W), ws = WZ 79 ad Z ++ tl ∧ LawZ cI cJ cZ cH ad tl Z ∧ cells + 27 * (fr (arR (Z 28)) 0 + fr (arR (Z 28)) 1) ≤ 600000 ∧ slots + 2817 * (fr (arR (Z 28)) 0 + fr (arR (Z 28)) 1) ≤ 7302250
theorem law_fin {cI cJ cZ cH : ClassId} {ad : Nat → Nat} {tl : va_W} {Z : Nat → va_E} {l1 l2 : List (Nat × va_E)} {tc' : Nat → Nat → Int32} {tr' : Nat → Int32} {nar' nam' : Int32} {st' : Nat → Int32} (hS : SHAPE cI cJ cZ cH ad Z) (k1 : allok cI cJ cZ cH ad l1) (k2 : allok cI cJ cZ cH ad l2) (t1 : l1.all (fun q => decide (q.1 < 79)) = true) (t2 : l2.all (fun q => decide (q.1 < 79)) = true) (et : plist jT arI (plist jT arI (tcZ Z) l1) l2 = tc') (er : plist jR (flI 3) (plist jR (flI 3) (trZ Z) l1) l2 = tr') (en : (flI 13 (setl (setl Z l1) l2 1)) = nar') (em : (flI 14 (setl (setl Z l1) l2 1)) = nam') (es : (arI (setl (setl Z l1) l2 58)) = st') (hr : Rel actK tc' tr' nar' nam' st') (h1 : (arI (setl (setl Z l1) l2 41)) 0 = 0) (h2 : (arL (setl (setl Z l1) l2 40)) 0 = 0) (h3 : (arI (setl (setl Z l1) l2 68)) 0 = 0) (h4 : (flL 11 (setl (setl Z l1) l2 0)) = (flL 3 (setl (setl Z l1) l2 57))) (h5 : (flL 12 (setl (setl Z l1) l2 0)) = (flL 4 (setl (setl Z l1) l2 57))) (h6 : IMG cI tl (arR (setl (setl Z l1) l2 28)) (arI (setl (setl Z l1) l2 59)) (arI (setl (setl Z l1) l2 60))) : LawZ cI cJ cZ cH ad tl (setl (setl Z l1) l2) := by
  refine ⟨SHAPE_set (SHAPE_set hS k1) k2, ?_, h1, h2, h3, h4, h5, h6⟩
  rw [tcZ_set t2, tcZ_set t1, trZ_set t2, trZ_set t1, et, er, en, em, es]
  exact hr
