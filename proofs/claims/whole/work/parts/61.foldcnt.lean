-- HOW MANY are left when folded
variable {M I O A : Nat} {L OU : List Nat} {G : List gt} {T : List Nat} {dp hi lo fo : Nat → Nat}
def fC (I A : Nat) (hi lo fo : Nat → Nat) (S OU : List Nat) : Nat → Prop := cn I (I + 1 + A) (sdO true fo S OU) (fun n => fw true fo (hi n) / 2) (fun n => fw true fo (lo n) / 2)
def MK (I A : Nat) (hi lo fo : Nat → Nat) (S OU R : List Nat) (k : Nat) (row : Nat → Int32) : Prop :=
  (∀ (j m : Nat), R[j]? = some m → row j = 1 → fC I A hi lo fo S OU m) ∧ (∀ x ∈ OU, ∀ (j : Nat), R[j]? = some (lf S fo x / 2) → row j = 1) ∧
  (∀ (j m i : Nat), R[j]? = some m → k ≤ j → row j = 1 → (R[i]? = some (fX fo hi m / 2) ∨ R[i]? = some (fX fo lo m / 2)) → row i = 1) ∧ ∀ j, j < 300 → row j = 0 ∨ row j = 1
theorem nd_at {R : List Nat} (h : R.Nodup) {i j m : Nat} (hi : R[i]? = some m) (hj : R[j]? = some m) : i = j := by rw [← ix_of h hi, ← ix_of h hj]
theorem mem_take_at {R : List Nat} {k u : Nat} (h : u ∈ R.take k) : ∃ j, j < k ∧ R[j]? = some u := by
  obtain ⟨j, hj, e⟩ := List.mem_iff_getElem.mp h
  have hl : j < k := by
    rw [List.length_take] at hj
    omega
  refine ⟨j, hl, ?_⟩
  rw [← List.getElem?_take_of_lt hl, ← e]
  exact List.getElem?_eq_getElem hj
theorem MK.at {S R : List Nat} {k m : Nat} {row : Nat → Int32} (h : MK I A hi lo fo S OU R (k + 1) row) (ri : RI I A hi lo fo R) (hS : ∀ x ∈ OU, kn I R (lf S fo x)) (hm : R[k]? = some m) : row k = 1 ↔ fC I A hi lo fo S OU m := by
  refine ⟨h.1 k m hm, fun hc => ?_⟩
  have key := hc (fun n => n ≤ I ∨ ∃ j : Nat, R[j]? = some n ∧ (k ≤ j → row j = 1)) (fun s ⟨x, hx, e⟩ => ?_) (fun n hn n1 n2 => ?_)
  · rcases key with q | ⟨j, q1, q2⟩
    · have := (ri.2 k m hm).1.1
      omega
    · have e := nd_at ri.1 q1 hm
      subst e
      exact q2 (Nat.le_refl _)
  · rw [lf_fw] at e
    rcases hS x hx with q | q
    · exact Or.inl (by omega)
    · refine Or.inr ⟨R.idxOf s, by rw [e]; exact ix_get q, fun _ => h.2.1 x hx _ (by rw [e]; exact ix_get q)⟩
  · rcases hn with q | ⟨j, q1, q2⟩
    · omega
    · obtain ⟨-, t1, t2⟩ := ri.2 j n q1
      have go : ∀ y, kn I (R.take j) y → (y = fX fo hi n ∨ y = fX fo lo n) → (y / 2 ≤ I ∨ ∃ i : Nat, R[i]? = some (y / 2) ∧ (k ≤ i → row i = 1)) := fun y ky hy => by
        rcases ky with q | q
        · exact Or.inl q
        · obtain ⟨i, i1, i2⟩ := mem_take_at q
          refine Or.inr ⟨i, i2, fun hki => ?_⟩
          refine h.2.2.1 j n i q1 (by omega) (q2 (by omega)) ?_
          rcases hy with hy | hy
          · rw [← hy]; exact Or.inl i2
          · rw [← hy]; exact Or.inr i2
      exact ⟨go _ t1 (Or.inl rfl), go _ t2 (Or.inr rfl)⟩
theorem MK.skip {S R : List Nat} {k : Nat} {row : Nat → Int32} (h : MK I A hi lo fo S OU R (k + 1) row) (h0 : row k = 0) : MK I A hi lo fo S OU R k row :=
  ⟨h.1, h.2.1, fun j m i hj hk hr hi => h.2.2.1 j m i hj (by
    rcases Nat.lt_or_ge k j with q | q
    · exact q
    · have : j = k := by omega
      rw [this, h0] at hr
      exact absurd hr (by decide)) hr hi, h.2.2.2⟩
theorem MK.mark {S R : List Nat} {k m : Nat} {row row' : Nat → Int32} (h : MK I A hi lo fo S OU R (k + 1) row) (ri : RI I A hi lo fo R) (hm : R[k]? = some m) (h1 : row k = 1) (hb : ∀ j, j < 300 → row' j = 0 ∨ row' j = 1) (hr : ∀ i : Nat, row' i = 1 ↔ (row i = 1 ∨ R[i]? = some (fX fo hi m / 2) ∨ R[i]? = some (fX fo lo m / 2))) : MK I A hi lo fo S OU R k row' := by
  obtain ⟨⟨m1, m2, m3⟩, t1, t2⟩ := ri.2 k m hm
  have cm := h.1 k m hm h1
  obtain ⟨c1, c2⟩ := cn_st cm m1 m2
  have low : ∀ y (i : Nat), kn I (R.take k) y → R[i]? = some (y / 2) → i < k := fun y i ky hi => by
    rcases ky with q | q
    · have := (ri.2 i _ hi).1.1
      omega
    · obtain ⟨i', i1, i2⟩ := mem_take_at q
      rw [nd_at ri.1 hi i2]
      exact i1
  refine ⟨fun j n hj hj1 => ?_, fun x hx j hj => (hr j).mpr (Or.inl (h.2.1 x hx j hj)), fun j n i hj hk hj1 hi => ?_, hb⟩
  · rcases (hr j).mp hj1 with q | q | q
    · exact h.1 j n hj q
    · rw [q] at hj
      rw [← Option.some.inj hj]
      exact c1
    · rw [q] at hj
      rw [← Option.some.inj hj]
      exact c2
  · refine (hr i).mpr ?_
    by_cases e : j = k
    · rw [e, hm] at hj
      cases hj
      exact Or.inr hi
    · refine Or.inl (h.2.2.1 j n i hj (by omega) ?_ hi)
      rcases (hr j).mp hj1 with q | q | q
      · exact q
      · have := low _ _ t1 q
        omega
      · have := low _ _ t2 q
        omega
/-- the row with the place of a folded literal set, if it is a gate's -/
def mk1 (L : List Nat) (I : Nat) (R : List Nat) (row : Nat → Int32) (y : Nat) : Nat → Int32 := if pz L I R y ≤ 2999 then row else va_up row ((pz L I R y - 3000) / 2) 1
theorem pz_big (w : wf M I O A L OU G) {R : List Nat} {y : Nat} : (y / 2 ≤ I → pz L I R y ≤ 2999) ∧ (I < y / 2 → 2999 < pz L I R y ∧ (pz L I R y - 3000) / 2 = R.idxOf (y / 2)) := by
  unfold pz
  rcases ps_cl w R (y / 2) with ⟨k0, e⟩ | ⟨k0, x, -, e, -, hy, hx⟩ | ⟨k0, e⟩ <;> constructor <;> intro z <;> omega
theorem mk1_iff (w : wf M I O A L OU G) {R : List Nat} (hR : R.Nodup) (ri : ∀ m ∈ R, I < m) {y : Nat} (ky : kn I R y) (row : Nat → Int32) (i : Nat) : mk1 L I R row y i = 1 ↔ (row i = 1 ∨ R[i]? = some (y / 2)) := by
  unfold mk1
  obtain ⟨b1, b2⟩ := pz_big (R := R) (y := y) w
  by_cases q : y / 2 ≤ I
  · rw [if_pos (b1 q)]
    refine ⟨Or.inl, fun z => z.resolve_right (fun z => ?_)⟩
    have := ri _ (List.mem_of_getElem? z)
    omega
  · obtain ⟨c1, c2⟩ := b2 (by omega)
    rw [if_neg (by omega), c2]
    have hy := ky.resolve_left q
    by_cases e : i = R.idxOf (y / 2)
    · rw [e, va_up_self]
      exact ⟨fun _ => Or.inr (ix_get hy), fun _ => rfl⟩
    · rw [va_up_ne _ _ e]
      exact ⟨Or.inl, fun z => z.resolve_right (fun z => e (ix_of hR z).symm)⟩
theorem mk1_b {L R : List Nat} {row : Nat → Int32} {y : Nat} (h : ∀ j, j < 300 → row j = 0 ∨ row j = 1) : ∀ j, j < 300 → mk1 L I R row y j = 0 ∨ mk1 L I R row y j = 1 := fun j hj => by
  unfold mk1
  by_cases q : pz L I R y ≤ 2999
  · rw [if_pos q]; exact h j hj
  · rw [if_neg q]
    by_cases e : j = (pz L I R y - 3000) / 2
    · rw [e, va_up_self]; exact Or.inr rfl
    · rw [va_up_ne _ _ e]; exact h j hj
/-- the class counts as many -/
theorem FX.cnt (fx : FX M I O A L OU G T dp hi lo fo) {R : List Nat} (ri : RI I A hi lo fo R) (hk : ∀ n, n < I + 1 + A → kn I R (fo n)) : cnP (fC I A hi lo fo (sv L ++ T) OU) (List.range' (I + 1) A) = cnP (fC I A hi lo fo (sv L ++ T) OU) R := by
  have lowS : ∀ x ∈ OU, (sv L ++ T).idxOf (x / 2) < I + 1 + A := fun x hx => fx.1.ixl (fx.1.stn (fx.1.2.1 x hx))
  have b2 : ∀ x : Nat, x % 2 < 2 := fun x => Nat.mod_lt _ (by decide)
  refine cnP_eqv (List.nodup_range' (step := 1)) ri.1 (fun n hn => ⟨fun hm => ?_, fun hm => ?_⟩)
  · have hI : I < n := by have := List.mem_range'_1.mp hm; omega
    have key := hn (fun n => n ≤ I ∨ n ∈ R) (fun s ⟨x, hx, e⟩ => ?_) (fun k _ k1 k2 => ?_)
    · exact key.resolve_left (by omega)
    · rw [e, lf_fw]
      unfold lf
      rw [fl_div (b2 _)]
      exact hk _ (lowS x hx)
    · obtain ⟨l1, l2⟩ := fx.low k1 k2
      constructor
      · show fl (fo (hi k / 2)) (hi k % 2) / 2 ≤ I ∨ fl (fo (hi k / 2)) (hi k % 2) / 2 ∈ R
        rw [fl_div (b2 _)]
        exact hk _ (by omega)
      · show fl (fo (lo k / 2)) (lo k % 2) / 2 ≤ I ∨ fl (fo (lo k / 2)) (lo k % 2) / 2 ∈ R
        rw [fl_div (b2 _)]
        exact hk _ (by omega)
  · obtain ⟨j, hj, e⟩ := List.mem_iff_getElem.mp hm
    have := (ri.2 j n (by rw [← e]; exact List.getElem?_eq_getElem hj)).1
    exact List.mem_range'_1.mpr (by omega)
