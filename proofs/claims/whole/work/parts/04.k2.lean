def cpI (f : Nat → Int32) (n0 : Nat) (sp : Int32) (g : Nat → Int32) (n1 : Nat) (dp n : Int32) : Option (Nat → Int32) := if (0 ≤ sp.toInt ∧ 0 ≤ dp.toInt ∧ 0 ≤ n.toInt) ∧ sp.toNatClampNeg + n.toNatClampNeg ≤ n0 ∧ dp.toNatClampNeg + n.toNatClampNeg ≤ n1 then some (va_cpy f g sp.toNatClampNeg dp.toNatClampNeg n.toNatClampNeg) else none
theorem nn_of {x : Int32} (h : 0 ≤ x.toInt) : ¬ x < 0 := by
  rw [Int32.lt_iff_toInt_lt, Int32.toInt_zero]; omega
section II
variable {p : Program} {l : Launch} {e : Env} {R : Room} {s : State} {m : MethodId} {args : Array Value} {below : List Frame} {meth : Method} {c : Code} {cc : ByteArray} {own : String} {Ts : List Cond} {D : va_G} {tys : List (ClassId × FieldType)} {A : Nat → Prop} {nL cells slots : Nat} {Q : State → Prop} {ws : va_W} {pc : Nat} {lv : List (Nat × Value)} {st : List Value}
theorem ii_copyI {α : Type} {r : α} {idx a0 a n0 n1 : Nat} {cA : ClassId} {f g : Nat → Int32} {sp dp n : Int32} {K : (Nat → Int32) → Option α} (wf : (Nat → Int32) → va_W) (h : Option.bind (cpI f n0 sp g n1 dp n) K = some r) (h1 : Cond.methodLink own idx arraycopyName ∈ Ts) (h2 : Cond.native arraycopyName ∈ Ts) (h3 : Cond.static arraycopyName ∈ Ts) (h4 : Cond.initialized "java/lang/System" ∈ Ts)
    (q0 q1 t0 : Nat) (ha0 : ws[q0]? = some (a0, .inl (cA, n0, .inl f))) (ha1 : ws[q1]? = some (a, .inl (cA, n1, .inl g))) (ht : tys[t0]? = some (cA, .int)) (hf : 1 ≤ R.frames) (hlo : (st.map fun v => v.category).sum + (nativeFrameWords "java/lang/System" "arraycopy" 5 + 11) ≤ R.locals) (d : decode cc pc = .ok (.invokestatic idx, 3))
    (hws : ∀ g, ws.set q1 (a, .inl (cA, n1, .inl g)) = wf g) (kk : ∀ g, K g = some r → WX p l e R s m args below meth c cc own Ts D tys A nL cells slots Q (wf g) (pc + 3) lv st) : WX p l e R s m args below meth c cc own Ts D tys A nL cells slots Q ws pc lv (.int n :: .int dp :: .ref a :: .int sp :: .ref a0 :: st) := by
  intro C H locs ls hP hD hS hl
  obtain ⟨hx, hb, hml, hown, hts, hK, hlk, hA, hZ⟩ := id C
  obtain ⟨g2, e1, e2⟩ := bnd h
  unfold cpI at e1
  split at e1
  · rename_i q
    cases e1
    obtain ⟨⟨q1', q2', q3'⟩, q4, q5⟩ := q
    exact va_copyi hx hb (hml.trans hl.1.symm) hown (hts _ h1) (hts _ h2) (hts _ h3) (hts _ h4) hK hP hD hS q0 q1 t0 t0 ha0 ha1 ht ht rfl (nn_of q1') (nn_of q2') (nn_of q3') q4 q5 (fun _ _ => rfl) hf hlo d (fun H1 locs1 hP hD hS => kk _ e2 C H1 locs1 ls (by rw [← hws]; exact hP) (by rw [← hws]; exact hD) hS hl)
  · cases e1
end II
