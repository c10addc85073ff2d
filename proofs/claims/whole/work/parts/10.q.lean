def filI (f : Nat → Int32) (i : Nat) (v : Int32) : Nat → Int32 := fun k => if k < i then v else f k
def filL (f : Nat → Int64) (i : Nat) (v : Int64) : Nat → Int64 := fun k => if k < i then v else f k
theorem J_fillI {f : Nat → Int32} {n : Nat} {v : Int32} (hn : n < 1000000) : F_J7_fill_53178 n f v = some (filI f n v) := by
  unfold F_J7_fill_53178
  rw [lt_eq]
  have h0 : ((0 : Int32), f) = (fun i => (nI i, filI f i v)) 0 := by
    show ((0 : Int32), f) = (nI 0, filI f 0 v)
    have : filI f 0 v = f := by funext k; unfold filI; rw [if_neg (by omega)]
    rw [this]; rfl
  rw [h0]
  refine sbind (itr_cnt (fun i => (nI i, filI f i v)) (nI n, filI f n v) n (fun i hi => ?_) ?_ (by omega)) rfl
  · unfold B_J7_fill_53178_5
    dsimp only
    rw [show Int32.ofNat n = nI n from rfl, if_pos (nI_lt hi (by omega))]
    refine sbind (sI_at hi (by omega)) ?_
    rw [lt_eq, show (1 : Int32) = nI 1 from rfl, nI_add]
    have : upd (filI f i v) i v = filI f (i + 1) v := by
      funext k
      unfold upd filI
      (repeat' split) <;> first | rfl | omega
    rw [this]
  · unfold B_J7_fill_53178_5
    dsimp only
    rw [show Int32.ofNat n = nI n from rfl, if_neg (nI_nlt (Nat.le_refl _) (by omega))]
theorem J_fillL {f : Nat → Int64} {n : Nat} {v : Int64} (hn : n < 1000000) : F_J7_fill_d0a16 n f v = some (filL f n v) := by
  unfold F_J7_fill_d0a16
  rw [lt_eq]
  have h0 : ((0 : Int32), f) = (fun i => (nI i, filL f i v)) 0 := by
    show ((0 : Int32), f) = (nI 0, filL f 0 v)
    have : filL f 0 v = f := by funext k; unfold filL; rw [if_neg (by omega)]
    rw [this]; rfl
  rw [h0]
  refine sbind (itr_cnt (fun i => (nI i, filL f i v)) (nI n, filL f n v) n (fun i hi => ?_) ?_ (by omega)) rfl
  · unfold B_J7_fill_d0a16_6
    dsimp only
    rw [show Int32.ofNat n = nI n from rfl, if_pos (nI_lt hi (by omega))]
    refine sbind (sL_at hi (by omega)) ?_
    rw [lt_eq, show (1 : Int32) = nI 1 from rfl, nI_add]
    have : vp_updL (filL f i v) i v = filL f (i + 1) v := by
      funext k
      unfold vp_updL filL
      (repeat' split) <;> first | rfl | omega
    rw [this]
  · unfold B_J7_fill_d0a16_6
    dsimp only
    rw [show Int32.ofNat n = nI n from rfl, if_neg (nI_nlt (Nat.le_refl _) (by omega))]
