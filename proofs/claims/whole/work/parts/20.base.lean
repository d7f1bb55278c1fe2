-- ROWS OF NUMBERS: pick, store, fill, and what they do to a heap
abbrev sx_w : sx_S := (sx_shp, true)
abbrev sx_r : sx_S := (sx_shp, false)
def pk (row : Nat → Int32) (n : Nat) (k : Int32) : Int32 := if 0 ≤ k.toInt ∧ k.toInt < n then row k.toInt.toNat else 0
theorem pk_nI {row : Nat → Int32} {n k : Nat} (h : k < n) (hn : n < 2 ^ 31) : pk row n (nI k) = row k := by
  unfold pk
  rw [nI_toInt (by omega), if_pos (by omega)]
  rfl
theorem ix_clamp {k : Int32} (h : 0 ≤ k.toInt) : k.toNatClampNeg = k.toInt.toNat := rfl
theorem ix_in {k : Int32} {n : Nat} (h0 : 0 ≤ k.toInt) (h : k.toInt < n) : vp_in k n := vp_in_iff.mpr ⟨h0, h⟩
theorem ix_lt {k : Int32} : k < 0 ↔ k.toInt < 0 := by
  rw [Int32.lt_iff_toInt_lt]; simp
theorem ix_le {n : Nat} {k : Int32} (hn : n < 2 ^ 31) : Int32.ofNat n ≤ k ↔ (n : Int) ≤ k.toInt := by
  rw [Int32.le_iff_toInt_le]
  have : (Int32.ofNat n).toInt = (n : Int) := nI_toInt hn
  rw [this]
theorem e_pick {sh : sx_S} {h : sx_H} {a n : Nat} {k : Int32} {f : Int32 → sx_H → Prop} (ha : sh.1 a = (1, n)) (hn : n < 2 ^ 31) (H : f (pk (h.1 a) n k) h) : sx_X sh 75 0 [some (.ref a), some (.int k)] [] h (sx_qi f) := by
  refine g_75_0 h a k ?_
  rw [ha]
  unfold pk at H
  by_cases h0 : k.toInt < 0
  · rw [if_neg (by omega)] at H
    exact ⟨fun _ => H, fun z => absurd (ix_lt.mpr h0) z⟩
  · refine ⟨fun z => absurd (ix_lt.mp z) h0, fun _ => ⟨Or.inl rfl, fun z => ?_, fun z => ?_⟩⟩
    · rw [if_neg (by have := (ix_le hn).mp z; omega)] at H
      exact H
    · have h1 : k.toInt < n := Int.not_le.mp (fun q => z ((ix_le hn).mpr q))
      rw [if_pos (by omega)] at H
      exact ⟨⟨rfl, ix_in (by omega) h1⟩, H⟩
/-- a row with one place changed, if there is such a place -/
def st (row : Nat → Int32) (n : Nat) (k v : Int32) : Nat → Int32 := if 0 ≤ k.toInt ∧ k.toInt < n then va_up row k.toInt.toNat v else row
theorem st_nI {row : Nat → Int32} {n k : Nat} {v : Int32} (h : k < n) (hn : n < 2 ^ 31) : st row n (nI k) v = va_up row k v := by
  unfold st
  rw [nI_toInt (by omega), if_pos (by omega)]
  rfl
/-- a heap with one row of ints changed -/
def hw (h : sx_H) (a : Nat) (row : Nat → Int32) : sx_H := (va_up h.1 a row, h.2)
theorem hw_self (h : sx_H) (a : Nat) (row : Nat → Int32) : (hw h a row).1 a = row := va_up_self _ _ _
theorem hw_ne (h : sx_H) {a b : Nat} (row : Nat → Int32) (e : b ≠ a) : (hw h a row).1 b = h.1 b := va_up_ne _ _ e
theorem hw_id (h : sx_H) (a : Nat) : hw h a (h.1 a) = h := by
  have : va_up h.1 a (h.1 a) = h.1 := by
    funext b
    unfold va_up
    split
    · rename_i e; rw [e]
    · rfl
  unfold hw
  rw [this]
theorem hw_hw (h : sx_H) (a : Nat) (r1 r2 : Nat → Int32) : hw (hw h a r1) a r2 = hw h a r2 := by
  unfold hw
  show (va_up (va_up h.1 a r1) a r2, h.2) = _
  rw [bx_uu]
theorem hw_comm (h : sx_H) {a b : Nat} (e : a ≠ b) (r1 r2 : Nat → Int32) : hw (hw h a r1) b r2 = hw (hw h b r2) a r1 := by
  unfold hw
  show (va_up (va_up h.1 a r1) b r2, h.2) = (va_up (va_up h.1 b r2) a r1, h.2)
  congr 1
  funext x
  unfold va_up
  by_cases h1 : x = a
  · subst h1; rw [if_neg e, if_pos rfl, if_pos rfl]
  · by_cases h2 : x = b
    · subst h2; rw [if_pos rfl, if_neg h1, if_pos rfl]
    · rw [if_neg h2, if_neg h1, if_neg h1, if_neg h2]
theorem e_store {sh : sx_S} {h : sx_H} {a n : Nat} {k v : Int32} {f : sx_H → Prop} (hwr : sh.2 = true) (ha : sh.1 a = (1, n)) (hn : n < 2 ^ 31) (H : f (hw h a (st (h.1 a) n k v))) : sx_X sh 76 0 [some (.ref a), some (.int k), some (.int v)] [] h (sx_qv f) := by
  refine g_76_0 h a k v ?_
  rw [ha]
  unfold st at H
  by_cases h0 : k.toInt < 0
  · rw [if_neg (by omega), hw_id] at H
    exact ⟨fun _ => H, fun z => absurd (ix_lt.mpr h0) z⟩
  · refine ⟨fun z => absurd (ix_lt.mp z) h0, fun _ => ⟨Or.inl rfl, fun z => ?_, fun z => ?_⟩⟩
    · rw [if_neg (by have := (ix_le hn).mp z; omega), hw_id] at H
      exact H
    · have h1 : k.toInt < n := Int.not_le.mp (fun q => z ((ix_le hn).mpr q))
      rw [if_pos (by omega)] at H
      exact ⟨⟨hwr, rfl, ix_in (by omega) h1⟩, H⟩
/-- Arrays.fill of a row of ints -/
theorem e_fill {sh : sx_S} {h : sx_H} {a n : Nat} {v : Int32} {f : sx_H → Prop} (hwr : sh.2 = true) (ha : sh.1 a = (1, n)) (hn : n < 2 ^ 31) (H : ∀ row : Nat → Int32, (∀ i, i < n → row i = v) → f (hw h a row)) : sx_X sh 0 0 [some (.ref a), some (.int v), none, none] [] h (sx_qv f) := by
  refine g_0_0 h a v ?_
  rw [ha]
  refine ⟨Or.inl rfl, ?_⟩
  have key : ∀ (d k : Nat) (row : Nat → Int32), k + d = n → (∀ i, i < k → row i = v) → sx_X sh 0 5 [some (.ref a), some (.int v), some (.int (nI k)), some (.int (Int32.ofNat n))] [] (hw h a row) (sx_qv f) := by
    intro d
    induction d with
    | zero =>
      intro k row hk hr
      refine g_0_5 _ a v (nI k) _ ⟨fun _ => H row (fun i hi => hr i (by omega)), fun z => absurd (nI_le (a := n) (b := k) (by omega) (by omega)) z⟩
    | succ d ih =>
      intro k row hk hr
      refine g_0_5 _ a v (nI k) _ ⟨fun z => absurd z (nI_ge (by omega) hn), fun _ => ?_⟩
      rw [ha]
      refine ⟨⟨hwr, rfl, vp_in_nI (by omega) hn⟩, ?_⟩
      rw [nI_clamp (by omega)]
      have := ih (k + 1) (va_up row k v) (by omega) (fun i hi => by
        unfold va_up
        split
        · rfl
        · exact hr i (by omega))
      rw [nI_1]
      have e1 : (sx_u (hw h a row).1 a k v, (hw h a row).2.1, (hw h a row).2.2) = hw h a (va_up row k v) := by
        unfold sx_u
        rw [hw_self]
        show (va_up (va_up h.1 a row) a (va_up row k v), h.2) = _
        rw [bx_uu]
        rfl
      rw [e1]
      exact this
  have := key n 0 (h.1 a) (by omega) (fun i hi => absurd hi (Nat.not_lt_zero _))
  rw [hw_id] at this
  exact this
