-- THE WORLD at the law's loop
section LWI
theorem rf_eq {a b : Nat} (h : a = b) : Value.ref a = Value.ref b := by rw [h]
def rr (z a : Nat) : Nat := z + (if a = 39 then 64 else if a < 39 then a else a - 1)
def L65 (D : va_G) (cI cJ cZ : ClassId) (z : Nat) : List (Option Cell → Prop) := [co D 6 (updV (updV (updV (updV (updV (updV (fun k => defaultValue (tyK6 k)) 0 (.ref ((z + 0 + 1) + 0))) 1 (.ref ((z + 0 + 1) + 5))) 2 (.ref ((z + 0 + 1) + 9))) 3 (.ref ((z + 0 + 1) + 13))) 4 (.ref ((z + 0 + 1) + 16))) 5 (.ref ((z + 0 + 1) + 27))), co D 2 (updV (updV (updV (fun k => defaultValue (tyK2 k)) 0 (.ref (((z + 0 + 1) + 0 + 1) + 0))) 3 (.ref (((z + 0 + 1) + 0 + 1) + 2))) 4 (.ref (((z + 0 + 1) + 0 + 1) + 3))), co D 0 (updV (fun k => defaultValue (tyK0 k)) 1 (.ref (((z + 0 + 1) + 0 + 1) + 0 + 1 + 0))), ca cJ 1024 (.long 0), ca cI 5 (.int 0), ca cI 5 (.int 0), co D 3 (updV (updV (updV (fun k => defaultValue (tyK3 k)) 0 (.ref (((z + 0 + 1) + 5 + 1) + 0))) 2 (.ref (((z + 0 + 1) + 5 + 1) + 1))) 4 (.ref (((z + 0 + 1) + 5 + 1) + 2))), ca cI 300 (.int 0), ca cI 300 (.int 0), ca cI 300 (.int 0), co D 4 (updV (updV (updV (fun k => defaultValue (tyK4 k)) 0 (.ref (((z + 0 + 1) + 9 + 1) + 0))) 1 (.ref (((z + 0 + 1) + 9 + 1) + 1))) 2 (.ref (((z + 0 + 1) + 9 + 1) + 2))), ca cI 315 (.int 0), ca cI 315 (.int 0), ca cI 315 (.int 0), co D 5 (updV (fun k => defaultValue (tyK5 k)) 0 (.ref (((z + 0 + 1) + 13 + 1) + 0))), co D 0 (updV (fun k => defaultValue (tyK0 k)) 1 (.ref (((z + 0 + 1) + 13 + 1) + 0 + 1 + 0))), ca cJ 512 (.long 0), co D 1 (updV (updV (updV (updV (updV (updV (updV (updV (updV (updV (fun k => defaultValue (tyK1 k)) 4 (.ref (((z + 0 + 1) + 16 + 1) + 0))) 5 (.ref (((z + 0 + 1) + 16 + 1) + 1))) 6 (.ref (((z + 0 + 1) + 16 + 1) + 2))) 7 (.ref (((z + 0 + 1) + 16 + 1) + 3))) 8 (.ref (((z + 0 + 1) + 16 + 1) + 4))) 9 (.ref (((z + 0 + 1) + 16 + 1) + 5))) 10 (.ref (((z + 0 + 1) + 16 + 1) + 6))) 11 (.ref (((z + 0 + 1) + 16 + 1) + 7))) 12 (.ref (((z + 0 + 1) + 16 + 1) + 8))) 13 (.ref (((z + 0 + 1) + 16 + 1) + 9))), ca cI 14 (.int 0), ca cI 16 (.int 0), ca cI 300 (.int 0), ca cI 300 (.int 0), ca cI 300 (.int 0), ca cI 315 (.int 0), ca cI 1001 (.int 0), ca cI 315 (.int 0), ca cI 315 (.int 0), ca cI 315 (.int 0), co D 1 (updV (updV (updV (updV (updV (updV (updV (updV (updV (updV (fun k => defaultValue (tyK1 k)) 4 (.ref (((z + 0 + 1) + 27 + 1) + 0))) 5 (.ref (((z + 0 + 1) + 27 + 1) + 1))) 6 (.ref (((z + 0 + 1) + 27 + 1) + 2))) 7 (.ref (((z + 0 + 1) + 27 + 1) + 3))) 8 (.ref (((z + 0 + 1) + 27 + 1) + 4))) 9 (.ref (((z + 0 + 1) + 27 + 1) + 5))) 10 (.ref (((z + 0 + 1) + 27 + 1) + 6))) 11 (.ref (((z + 0 + 1) + 27 + 1) + 7))) 12 (.ref (((z + 0 + 1) + 27 + 1) + 8))) 13 (.ref (((z + 0 + 1) + 27 + 1) + 9))), ca cI 14 (.int 0), ca cI 16 (.int 0), ca cI 300 (.int 0), ca cI 300 (.int 0), ca cI 300 (.int 0), ca cI 315 (.int 0), ca cI 1001 (.int 0), ca cI 315 (.int 0), ca cI 315 (.int 0), ca cI 315 (.int 0), co D 7 (updV (updV (updV (updV (updV (updV (updV (updV (updV (updV (updV (updV (updV (updV (updV (updV (updV (updV (updV (updV (updV (updV (updV (updV (fun k => defaultValue (tyK7 k)) 1 (.ref ((z + 39 + 1) + 0))) 3 (.ref ((z + 39 + 1) + 1))) 11 (.ref ((z + 39 + 1) + 2))) 12 (.ref ((z + 39 + 1) + 3))) 13 (.ref ((z + 39 + 1) + 4))) 14 (.ref ((z + 39 + 1) + 5))) 15 (.ref ((z + 39 + 1) + 6))) 16 (.ref ((z + 39 + 1) + 7))) 21 (.ref ((z + 39 + 1) + 8))) 22 (.ref ((z + 39 + 1) + 9))) 23 (.ref ((z + 39 + 1) + 10))) 24 (.ref ((z + 39 + 1) + 11))) 25 (.ref ((z + 39 + 1) + 12))) 26 (.ref ((z + 39 + 1) + 13))) 27 (.ref ((z + 39 + 1) + 14))) 28 (.ref ((z + 39 + 1) + 15))) 29 (.ref ((z + 39 + 1) + 16))) 31 (.ref ((z + 39 + 1) + 17))) 32 (.ref ((z + 39 + 1) + 18))) 33 (.ref ((z + 39 + 1) + 19))) 34 (.ref ((z + 39 + 1) + 20))) 35 (.ref ((z + 39 + 1) + 21))) 37 (.ref ((z + 39 + 1) + 22))) 38 (.ref ((z + 39 + 1) + 23))), ca cI 8192 (.int 0), ca cI 8192 (.int 0), ca cI 14 (.int 0), ca cI 16 (.int 0), ca cI 300 (.int 0), ca cI 300 (.int 0), ca cI 300 (.int 0), fun o => o = some (arrV cI 1001 (fun k => .int (va_up (fun _ => (0 : Int32)) 0 3 k))), ca cI 14 (.int 0), ca cI 16 (.int 0), ca cI 300 (.int 0), ca cI 300 (.int 0), ca cI 300 (.int 0), ca cI 1001 (.int 0), ca cI 1001 (.int 0), ca cI 1001 (.int 0), ca cZ 1001 (.int 0), ca cI 5 (.int 0), ca cI 5 (.int 0), ca cI 1001 (.int 0), ca cI 300 (.int 0), ca cI 300 (.int 0), ca cZ 300 (.int 0), ca cI 1001 (.int 0), ca cJ 1 (.long 0)]
theorem ob_0 {D : va_G} {cI cJ cZ : ClassId} {H : Heap} {z : Nat} (hq : (co D 6 (updV (updV (updV (updV (updV (updV (fun k => defaultValue (tyK6 k)) 0 (.ref ((z + 0 + 1) + 0))) 1 (.ref ((z + 0 + 1) + 5))) 2 (.ref ((z + 0 + 1) + 9))) 3 (.ref ((z + 0 + 1) + 13))) 4 (.ref ((z + 0 + 1) + 16))) 5 (.ref ((z + 0 + 1) + 27)))) H[z + 0]?) : sx_at D cI cJ cZ (rr z) sx_w i0 H 0 := by
  obtain ⟨q, hq, cell, q1, q2, q3, q4⟩ := hq
  cases hq
  refine sx_at_obI rfl (rfl : vwCl[6]? = some (RK6, TK6, 6)) ⟨cell, q1, q2, q3, fun k hk => (q4 k hk).trans (congrArg some ?_)⟩
  match k, hk with
  | 0, _ => exact (show Value.ref ((z + 0 + 1) + 0) = Value.ref (z + 1) from rf_eq (by omega))
  | 1, _ => exact (show Value.ref ((z + 0 + 1) + 5) = Value.ref (z + 6) from rf_eq (by omega))
  | 2, _ => exact (show Value.ref ((z + 0 + 1) + 9) = Value.ref (z + 10) from rf_eq (by omega))
  | 3, _ => exact (show Value.ref ((z + 0 + 1) + 13) = Value.ref (z + 14) from rf_eq (by omega))
  | 4, _ => exact (show Value.ref ((z + 0 + 1) + 16) = Value.ref (z + 17) from rf_eq (by omega))
  | 5, _ => exact (show Value.ref ((z + 0 + 1) + 27) = Value.ref (z + 28) from rf_eq (by omega))
  | k + 6, hk => exact absurd hk (Nat.not_lt.mpr (Nat.le_add_left _ _))
theorem ob_1 {D : va_G} {cI cJ cZ : ClassId} {H : Heap} {z : Nat} (hq : (co D 2 (updV (updV (updV (fun k => defaultValue (tyK2 k)) 0 (.ref (((z + 0 + 1) + 0 + 1) + 0))) 3 (.ref (((z + 0 + 1) + 0 + 1) + 2))) 4 (.ref (((z + 0 + 1) + 0 + 1) + 3)))) H[z + 1]?) : sx_at D cI cJ cZ (rr z) sx_w i0 H 1 := by
  obtain ⟨q, hq, cell, q1, q2, q3, q4⟩ := hq
  cases hq
  refine sx_at_obI rfl (rfl : vwCl[2]? = some (RK2, TK2, 7)) ⟨cell, q1, q2, q3, fun k hk => (q4 k hk).trans (congrArg some ?_)⟩
  match k, hk with
  | 0, _ => exact (show Value.ref (((z + 0 + 1) + 0 + 1) + 0) = Value.ref (z + 2) from rf_eq (by omega))
  | 1, _ => rfl
  | 2, _ => rfl
  | 3, _ => exact (show Value.ref (((z + 0 + 1) + 0 + 1) + 2) = Value.ref (z + 4) from rf_eq (by omega))
  | 4, _ => exact (show Value.ref (((z + 0 + 1) + 0 + 1) + 3) = Value.ref (z + 5) from rf_eq (by omega))
  | 5, _ => rfl
  | 6, _ => rfl
  | k + 7, hk => exact absurd hk (Nat.not_lt.mpr (Nat.le_add_left _ _))
theorem ob_2 {D : va_G} {cI cJ cZ : ClassId} {H : Heap} {z : Nat} (hq : (co D 0 (updV (fun k => defaultValue (tyK0 k)) 1 (.ref (((z + 0 + 1) + 0 + 1) + 0 + 1 + 0)))) H[z + 2]?) : sx_at D cI cJ cZ (rr z) sx_w i0 H 2 := by
  obtain ⟨q, hq, cell, q1, q2, q3, q4⟩ := hq
  cases hq
  refine sx_at_obI rfl (rfl : vwCl[0]? = some (RK0, TK0, 2)) ⟨cell, q1, q2, q3, fun k hk => (q4 k hk).trans (congrArg some ?_)⟩
  match k, hk with
  | 0, _ => rfl
  | 1, _ => exact (show Value.ref (((z + 0 + 1) + 0 + 1) + 0 + 1 + 0) = Value.ref (z + 3) from rf_eq (by omega))
  | k + 2, hk => exact absurd hk (Nat.not_lt.mpr (Nat.le_add_left _ _))
theorem ob_6 {D : va_G} {cI cJ cZ : ClassId} {H : Heap} {z : Nat} (hq : (co D 3 (updV (updV (updV (fun k => defaultValue (tyK3 k)) 0 (.ref (((z + 0 + 1) + 5 + 1) + 0))) 2 (.ref (((z + 0 + 1) + 5 + 1) + 1))) 4 (.ref (((z + 0 + 1) + 5 + 1) + 2)))) H[z + 6]?) : sx_at D cI cJ cZ (rr z) sx_w i0 H 6 := by
  obtain ⟨q, hq, cell, q1, q2, q3, q4⟩ := hq
  cases hq
  refine sx_at_obI rfl (rfl : vwCl[3]? = some (RK3, TK3, 5)) ⟨cell, q1, q2, q3, fun k hk => (q4 k hk).trans (congrArg some ?_)⟩
  match k, hk with
  | 0, _ => exact (show Value.ref (((z + 0 + 1) + 5 + 1) + 0) = Value.ref (z + 7) from rf_eq (by omega))
  | 1, _ => rfl
  | 2, _ => exact (show Value.ref (((z + 0 + 1) + 5 + 1) + 1) = Value.ref (z + 8) from rf_eq (by omega))
  | 3, _ => rfl
  | 4, _ => exact (show Value.ref (((z + 0 + 1) + 5 + 1) + 2) = Value.ref (z + 9) from rf_eq (by omega))
  | k + 5, hk => exact absurd hk (Nat.not_lt.mpr (Nat.le_add_left _ _))
theorem ob_10 {D : va_G} {cI cJ cZ : ClassId} {H : Heap} {z : Nat} (hq : (co D 4 (updV (updV (updV (fun k => defaultValue (tyK4 k)) 0 (.ref (((z + 0 + 1) + 9 + 1) + 0))) 1 (.ref (((z + 0 + 1) + 9 + 1) + 1))) 2 (.ref (((z + 0 + 1) + 9 + 1) + 2)))) H[z + 10]?) : sx_at D cI cJ cZ (rr z) sx_w i0 H 10 := by
  obtain ⟨q, hq, cell, q1, q2, q3, q4⟩ := hq
  cases hq
  refine sx_at_obI rfl (rfl : vwCl[4]? = some (RK4, TK4, 3)) ⟨cell, q1, q2, q3, fun k hk => (q4 k hk).trans (congrArg some ?_)⟩
  match k, hk with
  | 0, _ => exact (show Value.ref (((z + 0 + 1) + 9 + 1) + 0) = Value.ref (z + 11) from rf_eq (by omega))
  | 1, _ => exact (show Value.ref (((z + 0 + 1) + 9 + 1) + 1) = Value.ref (z + 12) from rf_eq (by omega))
  | 2, _ => exact (show Value.ref (((z + 0 + 1) + 9 + 1) + 2) = Value.ref (z + 13) from rf_eq (by omega))
  | k + 3, hk => exact absurd hk (Nat.not_lt.mpr (Nat.le_add_left _ _))
theorem ob_14 {D : va_G} {cI cJ cZ : ClassId} {H : Heap} {z : Nat} (hq : (co D 5 (updV (fun k => defaultValue (tyK5 k)) 0 (.ref (((z + 0 + 1) + 13 + 1) + 0)))) H[z + 14]?) : sx_at D cI cJ cZ (rr z) sx_w i0 H 14 := by
  obtain ⟨q, hq, cell, q1, q2, q3, q4⟩ := hq
  cases hq
  refine sx_at_obI rfl (rfl : vwCl[5]? = some (RK5, TK5, 1)) ⟨cell, q1, q2, q3, fun k hk => (q4 k hk).trans (congrArg some ?_)⟩
  match k, hk with
  | 0, _ => exact (show Value.ref (((z + 0 + 1) + 13 + 1) + 0) = Value.ref (z + 15) from rf_eq (by omega))
  | k + 1, hk => exact absurd hk (Nat.not_lt.mpr (Nat.le_add_left _ _))
theorem ob_15 {D : va_G} {cI cJ cZ : ClassId} {H : Heap} {z : Nat} (hq : (co D 0 (updV (fun k => defaultValue (tyK0 k)) 1 (.ref (((z + 0 + 1) + 13 + 1) + 0 + 1 + 0)))) H[z + 15]?) : sx_at D cI cJ cZ (rr z) sx_w i0 H 15 := by
  obtain ⟨q, hq, cell, q1, q2, q3, q4⟩ := hq
  cases hq
  refine sx_at_obI rfl (rfl : vwCl[0]? = some (RK0, TK0, 2)) ⟨cell, q1, q2, q3, fun k hk => (q4 k hk).trans (congrArg some ?_)⟩
  match k, hk with
  | 0, _ => rfl
  | 1, _ => exact (show Value.ref (((z + 0 + 1) + 13 + 1) + 0 + 1 + 0) = Value.ref (z + 16) from rf_eq (by omega))
  | k + 2, hk => exact absurd hk (Nat.not_lt.mpr (Nat.le_add_left _ _))
theorem ob_17 {D : va_G} {cI cJ cZ : ClassId} {H : Heap} {z : Nat} (hq : (co D 1 (updV (updV (updV (updV (updV (updV (updV (updV (updV (updV (fun k => defaultValue (tyK1 k)) 4 (.ref (((z + 0 + 1) + 16 + 1) + 0))) 5 (.ref (((z + 0 + 1) + 16 + 1) + 1))) 6 (.ref (((z + 0 + 1) + 16 + 1) + 2))) 7 (.ref (((z + 0 + 1) + 16 + 1) + 3))) 8 (.ref (((z + 0 + 1) + 16 + 1) + 4))) 9 (.ref (((z + 0 + 1) + 16 + 1) + 5))) 10 (.ref (((z + 0 + 1) + 16 + 1) + 6))) 11 (.ref (((z + 0 + 1) + 16 + 1) + 7))) 12 (.ref (((z + 0 + 1) + 16 + 1) + 8))) 13 (.ref (((z + 0 + 1) + 16 + 1) + 9)))) H[z + 17]?) : sx_at D cI cJ cZ (rr z) sx_w i0 H 17 := by
  obtain ⟨q, hq, cell, q1, q2, q3, q4⟩ := hq
  cases hq
  refine sx_at_obI rfl (rfl : vwCl[1]? = some (RK1, TK1, 14)) ⟨cell, q1, q2, q3, fun k hk => (q4 k hk).trans (congrArg some ?_)⟩
  match k, hk with
  | 0, _ => rfl
  | 1, _ => rfl
  | 2, _ => rfl
  | 3, _ => rfl
  | 4, _ => exact (show Value.ref (((z + 0 + 1) + 16 + 1) + 0) = Value.ref (z + 18) from rf_eq (by omega))
  | 5, _ => exact (show Value.ref (((z + 0 + 1) + 16 + 1) + 1) = Value.ref (z + 19) from rf_eq (by omega))
  | 6, _ => exact (show Value.ref (((z + 0 + 1) + 16 + 1) + 2) = Value.ref (z + 20) from rf_eq (by omega))
  | 7, _ => exact (show Value.ref (((z + 0 + 1) + 16 + 1) + 3) = Value.ref (z + 21) from rf_eq (by omega))
  | 8, _ => exact (show Value.ref (((z + 0 + 1) + 16 + 1) + 4) = Value.ref (z + 22) from rf_eq (by omega))
  | 9, _ => exact (show Value.ref (((z + 0 + 1) + 16 + 1) + 5) = Value.ref (z + 23) from rf_eq (by omega))
  | 10, _ => exact (show Value.ref (((z + 0 + 1) + 16 + 1) + 6) = Value.ref (z + 24) from rf_eq (by omega))
  | 11, _ => exact (show Value.ref (((z + 0 + 1) + 16 + 1) + 7) = Value.ref (z + 25) from rf_eq (by omega))
  | 12, _ => exact (show Value.ref (((z + 0 + 1) + 16 + 1) + 8) = Value.ref (z + 26) from rf_eq (by omega))
  | 13, _ => exact (show Value.ref (((z + 0 + 1) + 16 + 1) + 9) = Value.ref (z + 27) from rf_eq (by omega))
  | k + 14, hk => exact absurd hk (Nat.not_lt.mpr (Nat.le_add_left _ _))
theorem ob_28 {D : va_G} {cI cJ cZ : ClassId} {H : Heap} {z : Nat} (hq : (co D 1 (updV (updV (updV (updV (updV (updV (updV (updV (updV (updV (fun k => defaultValue (tyK1 k)) 4 (.ref (((z + 0 + 1) + 27 + 1) + 0))) 5 (.ref (((z + 0 + 1) + 27 + 1) + 1))) 6 (.ref (((z + 0 + 1) + 27 + 1) + 2))) 7 (.ref (((z + 0 + 1) + 27 + 1) + 3))) 8 (.ref (((z + 0 + 1) + 27 + 1) + 4))) 9 (.ref (((z + 0 + 1) + 27 + 1) + 5))) 10 (.ref (((z + 0 + 1) + 27 + 1) + 6))) 11 (.ref (((z + 0 + 1) + 27 + 1) + 7))) 12 (.ref (((z + 0 + 1) + 27 + 1) + 8))) 13 (.ref (((z + 0 + 1) + 27 + 1) + 9)))) H[z + 28]?) : sx_at D cI cJ cZ (rr z) sx_w i0 H 28 := by
  obtain ⟨q, hq, cell, q1, q2, q3, q4⟩ := hq
  cases hq
  refine sx_at_obI rfl (rfl : vwCl[1]? = some (RK1, TK1, 14)) ⟨cell, q1, q2, q3, fun k hk => (q4 k hk).trans (congrArg some ?_)⟩
  match k, hk with
  | 0, _ => rfl
  | 1, _ => rfl
  | 2, _ => rfl
  | 3, _ => rfl
  | 4, _ => exact (show Value.ref (((z + 0 + 1) + 27 + 1) + 0) = Value.ref (z + 29) from rf_eq (by omega))
  | 5, _ => exact (show Value.ref (((z + 0 + 1) + 27 + 1) + 1) = Value.ref (z + 30) from rf_eq (by omega))
  | 6, _ => exact (show Value.ref (((z + 0 + 1) + 27 + 1) + 2) = Value.ref (z + 31) from rf_eq (by omega))
  | 7, _ => exact (show Value.ref (((z + 0 + 1) + 27 + 1) + 3) = Value.ref (z + 32) from rf_eq (by omega))
  | 8, _ => exact (show Value.ref (((z + 0 + 1) + 27 + 1) + 4) = Value.ref (z + 33) from rf_eq (by omega))
  | 9, _ => exact (show Value.ref (((z + 0 + 1) + 27 + 1) + 5) = Value.ref (z + 34) from rf_eq (by omega))
  | 10, _ => exact (show Value.ref (((z + 0 + 1) + 27 + 1) + 6) = Value.ref (z + 35) from rf_eq (by omega))
  | 11, _ => exact (show Value.ref (((z + 0 + 1) + 27 + 1) + 7) = Value.ref (z + 36) from rf_eq (by omega))
  | 12, _ => exact (show Value.ref (((z + 0 + 1) + 27 + 1) + 8) = Value.ref (z + 37) from rf_eq (by omega))
  | 13, _ => exact (show Value.ref (((z + 0 + 1) + 27 + 1) + 9) = Value.ref (z + 38) from rf_eq (by omega))
  | k + 14, hk => exact absurd hk (Nat.not_lt.mpr (Nat.le_add_left _ _))
theorem ob_40 {D : va_G} {cI cJ cZ : ClassId} {H : Heap} {z : Nat} (hq : (co D 7 (updV (updV (updV (updV (updV (updV (updV (updV (updV (updV (updV (updV (updV (updV (updV (updV (updV (updV (updV (updV (updV (updV (updV (updV (fun k => defaultValue (tyK7 k)) 1 (.ref ((z + 39 + 1) + 0))) 3 (.ref ((z + 39 + 1) + 1))) 11 (.ref ((z + 39 + 1) + 2))) 12 (.ref ((z + 39 + 1) + 3))) 13 (.ref ((z + 39 + 1) + 4))) 14 (.ref ((z + 39 + 1) + 5))) 15 (.ref ((z + 39 + 1) + 6))) 16 (.ref ((z + 39 + 1) + 7))) 21 (.ref ((z + 39 + 1) + 8))) 22 (.ref ((z + 39 + 1) + 9))) 23 (.ref ((z + 39 + 1) + 10))) 24 (.ref ((z + 39 + 1) + 11))) 25 (.ref ((z + 39 + 1) + 12))) 26 (.ref ((z + 39 + 1) + 13))) 27 (.ref ((z + 39 + 1) + 14))) 28 (.ref ((z + 39 + 1) + 15))) 29 (.ref ((z + 39 + 1) + 16))) 31 (.ref ((z + 39 + 1) + 17))) 32 (.ref ((z + 39 + 1) + 18))) 33 (.ref ((z + 39 + 1) + 19))) 34 (.ref ((z + 39 + 1) + 20))) 35 (.ref ((z + 39 + 1) + 21))) 37 (.ref ((z + 39 + 1) + 22))) 38 (.ref ((z + 39 + 1) + 23)))) H[z + 39]?) : sx_at D cI cJ cZ (rr z) sx_w i0 H 40 := by
  obtain ⟨q, hq, cell, q1, q2, q3, q4⟩ := hq
  cases hq
  refine sx_at_obI rfl (rfl : vwCl[7]? = some (RK7, TK7, 39)) ⟨cell, q1, q2, q3, fun k hk => (q4 k hk).trans (congrArg some ?_)⟩
  match k, hk with
  | 0, _ => rfl
  | 1, _ => exact (show Value.ref ((z + 39 + 1) + 0) = Value.ref (z + 40) from rf_eq (by omega))
  | 2, _ => rfl
  | 3, _ => exact (show Value.ref ((z + 39 + 1) + 1) = Value.ref (z + 41) from rf_eq (by omega))
  | 4, _ => rfl
  | 5, _ => rfl
  | 6, _ => rfl
  | 7, _ => rfl
  | 8, _ => rfl
  | 9, _ => rfl
  | 10, _ => rfl
  | 11, _ => exact (show Value.ref ((z + 39 + 1) + 2) = Value.ref (z + 42) from rf_eq (by omega))
  | 12, _ => exact (show Value.ref ((z + 39 + 1) + 3) = Value.ref (z + 43) from rf_eq (by omega))
  | 13, _ => exact (show Value.ref ((z + 39 + 1) + 4) = Value.ref (z + 44) from rf_eq (by omega))
  | 14, _ => exact (show Value.ref ((z + 39 + 1) + 5) = Value.ref (z + 45) from rf_eq (by omega))
  | 15, _ => exact (show Value.ref ((z + 39 + 1) + 6) = Value.ref (z + 46) from rf_eq (by omega))
  | 16, _ => exact (show Value.ref ((z + 39 + 1) + 7) = Value.ref (z + 47) from rf_eq (by omega))
  | 17, _ => rfl
  | 18, _ => rfl
  | 19, _ => rfl
  | 20, _ => rfl
  | 21, _ => exact (show Value.ref ((z + 39 + 1) + 8) = Value.ref (z + 48) from rf_eq (by omega))
  | 22, _ => exact (show Value.ref ((z + 39 + 1) + 9) = Value.ref (z + 49) from rf_eq (by omega))
  | 23, _ => exact (show Value.ref ((z + 39 + 1) + 10) = Value.ref (z + 50) from rf_eq (by omega))
  | 24, _ => exact (show Value.ref ((z + 39 + 1) + 11) = Value.ref (z + 51) from rf_eq (by omega))
  | 25, _ => exact (show Value.ref ((z + 39 + 1) + 12) = Value.ref (z + 52) from rf_eq (by omega))
  | 26, _ => exact (show Value.ref ((z + 39 + 1) + 13) = Value.ref (z + 53) from rf_eq (by omega))
  | 27, _ => exact (show Value.ref ((z + 39 + 1) + 14) = Value.ref (z + 54) from rf_eq (by omega))
  | 28, _ => exact (show Value.ref ((z + 39 + 1) + 15) = Value.ref (z + 55) from rf_eq (by omega))
  | 29, _ => exact (show Value.ref ((z + 39 + 1) + 16) = Value.ref (z + 56) from rf_eq (by omega))
  | 30, _ => rfl
  | 31, _ => exact (show Value.ref ((z + 39 + 1) + 17) = Value.ref (z + 57) from rf_eq (by omega))
  | 32, _ => exact (show Value.ref ((z + 39 + 1) + 18) = Value.ref (z + 58) from rf_eq (by omega))
  | 33, _ => exact (show Value.ref ((z + 39 + 1) + 19) = Value.ref (z + 59) from rf_eq (by omega))
  | 34, _ => exact (show Value.ref ((z + 39 + 1) + 20) = Value.ref (z + 60) from rf_eq (by omega))
  | 35, _ => exact (show Value.ref ((z + 39 + 1) + 21) = Value.ref (z + 61) from rf_eq (by omega))
  | 36, _ => rfl
  | 37, _ => exact (show Value.ref ((z + 39 + 1) + 22) = Value.ref (z + 62) from rf_eq (by omega))
  | 38, _ => exact (show Value.ref ((z + 39 + 1) + 23) = Value.ref (z + 63) from rf_eq (by omega))
  | k + 39, hk => exact absurd hk (Nat.not_lt.mpr (Nat.le_add_left _ _))
theorem w65 {D : va_G} {cI cJ cZ : ClassId} {H : Heap} {z : Nat} (h : ∀ (i : Nat) (P : Option Cell → Prop), (L65 D cI cJ cZ z)[i]? = some P → P H[z + i]?) : sx_P D cI cJ cZ (rr z) sx_w i0 H := by
  intro a
  by_cases ha : 65 ≤ a
  · unfold sx_at
    rw [show (sx_w.1 a).1 = 0 from shp_hi ha]
    trivial
  · match a, ha with
    | 0, _ => exact ob_0 (h 0 _ rfl)
    | 1, _ => exact ob_1 (h 1 _ rfl)
    | 2, _ => exact ob_2 (h 2 _ rfl)
    | 3, _ => exact sx_at_lI rfl (h 3 _ rfl)
    | 4, _ => exact sx_at_iI rfl (h 4 _ rfl)
    | 5, _ => exact sx_at_iI rfl (h 5 _ rfl)
    | 6, _ => exact ob_6 (h 6 _ rfl)
    | 7, _ => exact sx_at_iI rfl (h 7 _ rfl)
    | 8, _ => exact sx_at_iI rfl (h 8 _ rfl)
    | 9, _ => exact sx_at_iI rfl (h 9 _ rfl)
    | 10, _ => exact ob_10 (h 10 _ rfl)
    | 11, _ => exact sx_at_iI rfl (h 11 _ rfl)
    | 12, _ => exact sx_at_iI rfl (h 12 _ rfl)
    | 13, _ => exact sx_at_iI rfl (h 13 _ rfl)
    | 14, _ => exact ob_14 (h 14 _ rfl)
    | 15, _ => exact ob_15 (h 15 _ rfl)
    | 16, _ => exact sx_at_lI rfl (h 16 _ rfl)
    | 17, _ => exact ob_17 (h 17 _ rfl)
    | 18, _ => exact sx_at_iI rfl (h 18 _ rfl)
    | 19, _ => exact sx_at_iI rfl (h 19 _ rfl)
    | 20, _ => exact sx_at_iI rfl (h 20 _ rfl)
    | 21, _ => exact sx_at_iI rfl (h 21 _ rfl)
    | 22, _ => exact sx_at_iI rfl (h 22 _ rfl)
    | 23, _ => exact sx_at_iI rfl (h 23 _ rfl)
    | 24, _ => exact sx_at_iI rfl (h 24 _ rfl)
    | 25, _ => exact sx_at_iI rfl (h 25 _ rfl)
    | 26, _ => exact sx_at_iI rfl (h 26 _ rfl)
    | 27, _ => exact sx_at_iI rfl (h 27 _ rfl)
    | 28, _ => exact ob_28 (h 28 _ rfl)
    | 29, _ => exact sx_at_iI rfl (h 29 _ rfl)
    | 30, _ => exact sx_at_iI rfl (h 30 _ rfl)
    | 31, _ => exact sx_at_iI rfl (h 31 _ rfl)
    | 32, _ => exact sx_at_iI rfl (h 32 _ rfl)
    | 33, _ => exact sx_at_iI rfl (h 33 _ rfl)
    | 34, _ => exact sx_at_iI rfl (h 34 _ rfl)
    | 35, _ => exact sx_at_iI rfl (h 35 _ rfl)
    | 36, _ => exact sx_at_iI rfl (h 36 _ rfl)
    | 37, _ => exact sx_at_iI rfl (h 37 _ rfl)
    | 38, _ => exact sx_at_iI rfl (h 38 _ rfl)
    | 39, _ => exact sx_at_lI rfl (h 64 _ rfl)
    | 40, _ => exact ob_40 (h 39 _ rfl)
    | 41, _ => exact sx_at_iI rfl (h 40 _ rfl)
    | 42, _ => exact sx_at_iI rfl (h 41 _ rfl)
    | 43, _ => exact sx_at_iI rfl (h 42 _ rfl)
    | 44, _ => exact sx_at_iI rfl (h 43 _ rfl)
    | 45, _ => exact sx_at_iI rfl (h 44 _ rfl)
    | 46, _ => exact sx_at_iI rfl (h 45 _ rfl)
    | 47, _ => exact sx_at_iI rfl (h 46 _ rfl)
    | 48, _ => exact sx_at_iI rfl (h 47 _ rfl)
    | 49, _ => exact sx_at_iI rfl (h 48 _ rfl)
    | 50, _ => exact sx_at_iI rfl (h 49 _ rfl)
    | 51, _ => exact sx_at_iI rfl (h 50 _ rfl)
    | 52, _ => exact sx_at_iI rfl (h 51 _ rfl)
    | 53, _ => exact sx_at_iI rfl (h 52 _ rfl)
    | 54, _ => exact sx_at_iI rfl (h 53 _ rfl)
    | 55, _ => exact sx_at_iI rfl (h 54 _ rfl)
    | 56, _ => exact sx_at_iI rfl (h 55 _ rfl)
    | 57, _ => exact sx_at_zI rfl (h 56 _ rfl)
    | 58, _ => exact sx_at_iI rfl (h 57 _ rfl)
    | 59, _ => exact sx_at_iI rfl (h 58 _ rfl)
    | 60, _ => exact sx_at_iI rfl (h 59 _ rfl)
    | 61, _ => exact sx_at_iI rfl (h 60 _ rfl)
    | 62, _ => exact sx_at_iI rfl (h 61 _ rfl)
    | 63, _ => exact sx_at_zI rfl (h 62 _ rfl)
    | 64, _ => exact sx_at_iI rfl (h 63 _ rfl)
    | a + 65, ha => exact absurd (Nat.le_add_left _ _) ha
end LWI
