/-! PURE LAWS 46: images, the class's side -/
section IMH
variable {tc : Nat → Nat → Int32} {tr : Nat → Int32} {nar nam : Int32} {st : Nat → Int32}
theorem C_image_have (h : Rel actK tc tr nar nam st) (td : Nat → Nat → Int32) (tdr : Nat → Int32) (dnar dnam : Int32) {p : Nat} (hp : p < 2) : ∃ tc', F_X11_image_have (td 2) (tdr 2) (td 3) (tdr 3) (td 6) (tdr 6) (td 9) (tdr 9) (td 11) (tdr 11) (td 10) (tdr 10) (td 0) (tdr 0) dnam dnar (td 4) (tdr 4) (td 12) (tdr 12) (td 5) (tdr 5) (td 7) (tdr 7) (td 1) (tdr 1) (td 8) (tdr 8) (tc 2) (tr 2) (tc 3) (tr 3) (tc 6) (tr 6) (tc 9) (tr 9) (tc 11) (tr 11) (tc 10) (tr 10) (tc 0) (tr 0) nam nar (tc 4) (tr 4) (tc 12) (tr 12) (tc 5) (tr 5) (tc 7) (tr 7) (tc 1) (tr 1) (tc 8) (tr 8) (nI p) = some (1, tc' 2, tr 2, tc' 3, tr 3, tc' 6, tr 6, tc' 9, tr 9, tc' 11, tr 11, tc' 10, tr 10, tc' 0, tr 0, nam, nar, tc' 4, tr 4, tc' 12, tr 12, tc' 5, tr 5, tc' 7, tr 7, tc' 1, tr 1, tc' 8, tr 8) ∧ Rel actK tc' tr nar nam st := by
  obtain ⟨tc', e, r⟩ := BECOME h td tdr dnar dnam
  refine ⟨tc', ?_, r⟩
  unfold F_X11_image_have
  refine sbind (C_in01_t hp) ?_
  rw [if_pos rfl]
  exact sbind (rI_t hp) (sbind e rfl)
theorem C_from_have {td : Nat → Nat → Int32} {tdr : Nat → Int32} {dnar dnam : Int32} {sd : Nat → Int32} (h : Rel actK td tdr dnar dnam sd) (tc : Nat → Nat → Int32) (tr : Nat → Int32) (nar nam : Int32) {p : Nat} (hp : p < 2) : ∃ tc', F_X11_from_have (td 2) (tdr 2) (td 3) (tdr 3) (td 6) (tdr 6) (td 9) (tdr 9) (td 11) (tdr 11) (td 10) (tdr 10) (td 0) (tdr 0) dnam dnar (td 4) (tdr 4) (td 12) (tdr 12) (td 5) (tdr 5) (td 7) (tdr 7) (td 1) (tdr 1) (td 8) (tdr 8) (tc 2) (tr 2) (tc 3) (tr 3) (tc 6) (tr 6) (tc 9) (tr 9) (tc 11) (tr 11) (tc 10) (tr 10) (tc 0) (tr 0) nam nar (tc 4) (tr 4) (tc 12) (tr 12) (tc 5) (tr 5) (tc 7) (tr 7) (tc 1) (tr 1) (tc 8) (tr 8) (nI p) = some (1, tc' 2, tdr 2, tc' 3, tdr 3, tc' 6, tdr 6, tc' 9, tdr 9, tc' 11, tdr 11, tc' 10, tdr 10, tc' 0, tdr 0, dnam, dnar, tc' 4, tdr 4, tc' 12, tdr 12, tc' 5, tdr 5, tc' 7, tdr 7, tc' 1, tdr 1, tc' 8, tdr 8) ∧ Rel actK tc' tdr dnar dnam sd := by
  obtain ⟨tc', e, r⟩ := BECOME h tc tr nar nam
  refine ⟨tc', ?_, r⟩
  unfold F_X11_from_have
  refine sbind (C_in01_t hp) ?_
  rw [if_pos rfl]
  exact sbind (rI_t hp) (sbind e rfl)
theorem C_image_none (h : Rel actK tc tr nar nam st) {p : Nat} (hp : p < 2) : ∃ tc', F_X11_image_none (tc 2) (tr 2) (tc 3) (tr 3) (tc 6) (tr 6) (tc 9) (tr 9) (tc 11) (tr 11) (tc 10) (tr 10) (tc 0) (tr 0) nam nar (tc 4) (tr 4) (tc 12) (tr 12) (tc 5) (tr 5) (tc 7) (tr 7) (tc 1) (tr 1) (tc 8) (tr 8) (nI p) = some (1, tc' 2, tr 2, tc' 3, tr 3, tc' 6, tr 6, tc' 9, tr 9, tc' 11, tr 11, tc' 10, tr 10, tc' 0, tr 0, nam, nar, tc' 4, tr 4, tc' 12, tr 12, tc' 5, tr 5, tc' 7, tr 7, tc' 1, tr 1, tc' 8, tr 8) ∧ Rel actK tc' tr nar nam st := by
  obtain ⟨z1, z2, z3, z4, z5⟩ := C_tail
  obtain ⟨tc', e, r⟩ := BECOME h (newC z1 z2) newR 10 9
  refine ⟨tc', ?_, r⟩
  unfold F_X11_image_none
  refine sbind (C_in01_t hp) ?_
  rw [if_pos rfl]
  exact sbind (rI_t hp) (sbind z3 (sbind e rfl))
end IMH
