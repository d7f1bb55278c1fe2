-- THE FOLDS of the class and of the reference are the same up to names
def FX (M I O A : Nat) (L OU : List Nat) (G : List gt) (T : List Nat) (dp hi lo fo : Nat → Nat) : Prop :=
  NP M I O A L OU G T dp hi lo ∧ (∀ n, n < I + 1 + A → fo n ≤ 2 * n) ∧ (∀ n, n ≤ I → fo n = 2 * n) ∧ ∀ n, I < n → n < I + 1 + A → FC I fo hi lo n (fo n)
theorem fl_div {a b : Nat} (hb : b < 2) : fl a b / 2 = a / 2 := by unfold fl; omega
theorem bs_sym (x y : Nat) : bs x y = bs y x := by
  unfold bs
  (repeat' split) <;> first | rfl | (exfalso; omega) | (congr 1; omega)
variable {M I O A : Nat} {L OU : List Nat} {G : List gt} {T : List Nat} {dp hi lo fo : Nat → Nat}
theorem FX.low (fx : FX M I O A L OU G T dp hi lo fo) {n : Nat} (h1 : I < n) (h2 : n < I + 1 + A) : hi n / 2 < n ∧ lo n / 2 < n := fx.1.low h1 h2
theorem FX.root (fx : FX M I O A L OU G T dp hi lo fo) : ∀ (N n : Nat), n < N → n < I + 1 + A → I < fo n / 2 → fo (fo n / 2) = 2 * (fo n / 2) := by
  intro N
  induction N with
  | zero => exact fun n h => absurd h (Nat.not_lt_zero _)
  | succ N ih =>
    intro n hn h2 h3
    by_cases q : n ≤ I
    · have := fx.2.2.1 n q
      omega
    · obtain ⟨l1, l2⟩ := fx.low (by omega) h2
      have gX : fX fo hi n / 2 = fo (hi n / 2) / 2 := fl_div (Nat.mod_lt _ (by decide))
      have gY : fX fo lo n / 2 = fo (lo n / 2) / 2 := fl_div (Nat.mod_lt _ (by decide))
      have cX : ∀ v, v = fX fo hi n ∨ v = fX fo lo n → fo n = v → fo (fo n / 2) = 2 * (fo n / 2) := fun v hv e => by
        rw [e]
        rw [e] at h3
        rcases hv with hv | hv
        · rw [hv] at h3 ⊢
          rw [gX] at h3 ⊢
          exact ih _ (by omega) (by omega) h3
        · rw [hv] at h3 ⊢
          rw [gY] at h3 ⊢
          exact ih _ (by omega) (by omega) h3
      rcases fx.2.2.2 n (by omega) h2 with ⟨v, hv, e⟩ | ⟨hb, ⟨m, m1, m2, ⟨m3, m4⟩, e⟩ | ⟨m1, e⟩⟩
      · unfold bs at hv
        by_cases c1 : fX fo hi n = 0 ∨ fX fo lo n = 0 ∨ (fX fo hi n / 2 = fX fo lo n / 2 ∧ fX fo hi n ≠ fX fo lo n)
        · rw [if_pos c1] at hv
          cases hv
          omega
        · rw [if_neg c1] at hv
          by_cases c2 : fX fo hi n = 1
          · rw [if_pos c2] at hv
            cases hv
            exact cX _ (Or.inr rfl) e
          · rw [if_neg c2] at hv
            by_cases c3 : fX fo lo n = 1 ∨ fX fo hi n = fX fo lo n
            · rw [if_pos c3] at hv
              cases hv
              exact cX _ (Or.inl rfl) e
            · rw [if_neg c3] at hv
              cases hv
      · rw [e, show 2 * m / 2 = m by omega]
        exact m3
      · rw [e, show 2 * n / 2 = n by omega]
        exact e
theorem bs_mem {x y v : Nat} (h : bs x y = some v) : v = 0 ∨ v = x ∨ v = y := by
  unfold bs at h
  by_cases c1 : x = 0 ∨ y = 0 ∨ (x / 2 = y / 2 ∧ x ≠ y)
  · rw [if_pos c1] at h
    cases h
    exact Or.inl rfl
  · rw [if_neg c1] at h
    by_cases c2 : x = 1
    · rw [if_pos c2] at h
      cases h
      exact Or.inr (Or.inr rfl)
    · rw [if_neg c2] at h
      by_cases c3 : y = 1 ∨ x = y
      · rw [if_pos c3] at h
        cases h
        exact Or.inr (Or.inl rfl)
      · rw [if_neg c3] at h
        cases h
/-- the same two, in one order or the other -/
def pr2 (a b x y : Nat) : Prop := (a = x ∧ b = y) ∨ (a = y ∧ b = x)
theorem pr2.bs {a b x y : Nat} (h : pr2 a b x y) : bs a b = bs x y := by
  rcases h with ⟨rfl, rfl⟩ | ⟨rfl, rfl⟩
  · rfl
  · exact bs_sym _ _
theorem FX.nn (fx : FX M I O A L OU G T dp hi lo fo) {n : Nat} (h1 : I < n) (h2 : n < I + 1 + A) (hb : bs (fX fo hi n) (fX fo lo n) = none) :
    I < fo n / 2 ∧ fo n / 2 ≤ n ∧ fo (fo n / 2) = 2 * (fo n / 2) ∧ fo n = 2 * (fo n / 2) ∧ pr2 (fX fo hi (fo n / 2)) (fX fo lo (fo n / 2)) (fX fo hi n) (fX fo lo n) := by
  rcases fx.2.2.2 n h1 h2 with ⟨v, hv, e⟩ | ⟨-, ⟨m, m1, m2, ⟨m3, m4⟩, e⟩ | ⟨m1, e⟩⟩
  · rw [hb] at hv; cases hv
  · have em : fo n / 2 = m := by omega
    rw [em]
    exact ⟨m1, Nat.le_of_lt m2, m3, e, m4⟩
  · have em : fo n / 2 = n := by omega
    rw [em]
    exact ⟨h1, Nat.le_refl _, e, e, Or.inl ⟨rfl, rfl⟩⟩
theorem FX.rootNone (fx : FX M I O A L OU G T dp hi lo fo) {m : Nat} (h1 : I < m) (h2 : m < I + 1 + A) (hm : fo m = 2 * m) : bs (fX fo hi m) (fX fo lo m) = none ∧ ∀ k, I < k → k < m → ¬ isA fo hi lo k (fX fo hi m) (fX fo lo m) := by
  obtain ⟨l1, l2⟩ := fx.low h1 h2
  have b1 := fX_le l1 (fx.2.1 _ (by omega))
  have b2 := fX_le l2 (fx.2.1 _ (by omega))
  rcases fx.2.2.2 m h1 h2 with ⟨v, hv, e⟩ | ⟨hb, ⟨k, m1, m2, m3, e⟩ | ⟨m1, e⟩⟩
  · rcases bs_mem hv with q | q | q <;> omega
  · omega
  · exact ⟨hb, m1⟩
theorem FX.un (fx : FX M I O A L OU G T dp hi lo fo) {m k : Nat} (h1 : I < m) (h2 : m < I + 1 + A) (hm : fo m = 2 * m) (g1 : I < k) (g2 : k < I + 1 + A) (hk : fo k = 2 * k) (hp : pr2 (fX fo hi m) (fX fo lo m) (fX fo hi k) (fX fo lo k)) : m = k := by
  rcases Nat.lt_trichotomy m k with q | q | q
  · exact absurd ⟨hm, hp⟩ ((fx.rootNone g1 g2 hk).2 m h1 q)
  · exact q
  · refine absurd ⟨hk, ?_⟩ ((fx.rootNone h1 h2 hm).2 k g1 q)
    rcases hp with ⟨a, b⟩ | ⟨a, b⟩
    · exact Or.inl ⟨a.symm, b.symm⟩
    · exact Or.inr ⟨b.symm, a.symm⟩
/-- the reference's literal for a folded literal of the class, where the roots are R -/
def ps (L : List Nat) (I : Nat) (R : List Nat) (k : Nat) : Nat := if k = 0 then 0 else if k ≤ I then L.getD (k - 1) 0 else 3000 + 2 * R.idxOf k
def pz (L : List Nat) (I : Nat) (R : List Nat) (x : Nat) : Nat := ps L I R (x / 2) + x % 2
def kn (I : Nat) (R : List Nat) (x : Nat) : Prop := x / 2 ≤ I ∨ x / 2 ∈ R
theorem ps_cl (w : wf M I O A L OU G) (R : List Nat) (k : Nat) : (k = 0 ∧ ps L I R k = 0) ∨ ((1 ≤ k ∧ k ≤ I) ∧ ∃ x, L[k - 1]? = some x ∧ ps L I R k = x ∧ 1 < x ∧ x ≤ 2001 ∧ x % 2 = 0) ∨ (I < k ∧ ps L I R k = 3000 + 2 * R.idxOf k) := by
  unfold ps
  by_cases q : k = 0
  · rw [if_pos q]; exact Or.inl ⟨q, rfl⟩
  · rw [if_neg q]
    by_cases q1 : k ≤ I
    · rw [if_pos q1]
      have hl : k - 1 < L.length := by rw [w.2.1.1]; omega
      have e : L[k - 1]? = some (L.getD (k - 1) 0) := getD_some hl
      have hx := w.2.2.1.1 _ (List.mem_of_getElem? e)
      have := w.1
      exact Or.inr (Or.inl ⟨⟨by omega, q1⟩, _, e, rfl, hx.1, by omega, hx.2.2⟩)
    · rw [if_neg q1]; exact Or.inr (Or.inr ⟨by omega, rfl⟩)
theorem ps_ev (w : wf M I O A L OU G) (R : List Nat) (k : Nat) : ps L I R k % 2 = 0 := by
  rcases ps_cl w R k with ⟨-, e⟩ | ⟨-, x, -, e, -, -, hx⟩ | ⟨-, e⟩ <;> omega
theorem ps_inj (w : wf M I O A L OU G) {R : List Nat} {k j : Nat} (hk : k ≤ I ∨ k ∈ R) (hj : j ≤ I ∨ j ∈ R) (h : ps L I R k = ps L I R j) : k = j := by
  rcases ps_cl w R k with ⟨k0, e⟩ | ⟨k0, x, kx, e, k1, k2, -⟩ | ⟨k0, e⟩
  · rcases ps_cl w R j with ⟨j0, e'⟩ | ⟨j0, y, jx, e', j1, j2, -⟩ | ⟨j0, e'⟩ <;> omega
  · rcases ps_cl w R j with ⟨j0, e'⟩ | ⟨j0, y, jx, e', j1, j2, -⟩ | ⟨j0, e'⟩
    · omega
    · have exy : x = y := by omega
      subst exy
      obtain ⟨a1, a2⟩ := List.getElem?_eq_some_iff.mp kx
      obtain ⟨b1, b2⟩ := List.getElem?_eq_some_iff.mp jx
      have pw := List.pairwise_iff_getElem.mp w.2.2.1.2
      rcases Nat.lt_trichotomy (k - 1) (j - 1) with q | q | q
      · exact absurd (by rw [a2, b2]) (pw _ _ a1 b1 q)
      · omega
      · exact absurd (by rw [a2, b2]) (pw _ _ b1 a1 q)
    · omega
  · rcases ps_cl w R j with ⟨j0, e'⟩ | ⟨j0, y, jx, e', j1, j2, -⟩ | ⟨j0, e'⟩
    · omega
    · omega
    · have hk' : k ∈ R := hk.resolve_left (by omega)
      have hj' : j ∈ R := hj.resolve_left (by omega)
      have ei : R.idxOf k = R.idxOf j := by omega
      have := ix_get hk'
      rw [ei, ix_get hj'] at this
      cases this
      rfl
theorem pz_div (w : wf M I O A L OU G) (R : List Nat) (x : Nat) : pz L I R x / 2 = ps L I R (x / 2) / 2 ∧ pz L I R x % 2 = x % 2 := by
  have := ps_ev w R (x / 2)
  unfold pz
  omega
theorem pz_half (w : wf M I O A L OU G) {R : List Nat} {x y : Nat} (hx : kn I R x) (hy : kn I R y) : pz L I R x / 2 = pz L I R y / 2 ↔ x / 2 = y / 2 := by
  rw [(pz_div w R x).1, (pz_div w R y).1]
  have a := ps_ev w R (x / 2)
  have b := ps_ev w R (y / 2)
  refine ⟨fun h => ps_inj w hx hy (by omega), fun h => by rw [h]⟩
theorem pz_eq (w : wf M I O A L OU G) {R : List Nat} {x y : Nat} (hx : kn I R x) (hy : kn I R y) : pz L I R x = pz L I R y ↔ x = y := by
  have a := pz_half w hx hy
  have b := (pz_div w R x).2
  have c := (pz_div w R y).2
  refine ⟨fun h => ?_, fun h => by rw [h]⟩
  have := a.mp (by rw [h])
  omega
theorem kn_c {R : List Nat} {x : Nat} (h : x < 2) : kn I R x := Or.inl (by omega)
theorem pz_c {R : List Nat} {x : Nat} (h : x < 2) : pz L I R x = x := by
  unfold pz ps
  rw [if_pos (by omega)]
  omega
theorem pz_is (w : wf M I O A L OU G) {R : List Nat} {x c : Nat} (hx : kn I R x) (hc : c < 2) : pz L I R x = c ↔ x = c := by
  have := pz_eq w hx (kn_c (I := I) (R := R) hc)
  rw [pz_c hc] at this
  exact this
theorem bs_pz (w : wf M I O A L OU G) {R : List Nat} {x y : Nat} (hx : kn I R x) (hy : kn I R y) : bs (pz L I R x) (pz L I R y) = (bs x y).map (pz L I R) := by
  have e1 : (pz L I R x = 0 ∨ pz L I R y = 0 ∨ (pz L I R x / 2 = pz L I R y / 2 ∧ pz L I R x ≠ pz L I R y)) ↔ (x = 0 ∨ y = 0 ∨ (x / 2 = y / 2 ∧ x ≠ y)) := by
    rw [pz_is w hx (by decide), pz_is w hy (by decide), pz_half w hx hy, Ne, pz_eq w hx hy]
  unfold bs
  by_cases c1 : x = 0 ∨ y = 0 ∨ (x / 2 = y / 2 ∧ x ≠ y)
  · rw [if_pos c1, if_pos (e1.mpr c1)]
    exact congrArg some (pz_c (by decide)).symm
  · rw [if_neg c1, if_neg (fun z => c1 (e1.mp z))]
    by_cases c2 : x = 1
    · rw [if_pos c2, if_pos ((pz_is w hx (by decide)).mpr c2)]
      rfl
    · rw [if_neg c2, if_neg (fun z => c2 ((pz_is w hx (by decide)).mp z))]
      by_cases c3 : y = 1 ∨ x = y
      · rw [if_pos c3, if_pos (by rw [pz_is w hy (by decide), pz_eq w hx hy]; exact c3)]
        rfl
      · rw [if_neg c3, if_neg (by rw [pz_is w hy (by decide), pz_eq w hx hy]; exact c3)]
        rfl
theorem pz_fl (w : wf M I O A L OU G) {R : List Nat} {a b : Nat} (hb : b < 2) : fl (pz L I R a) b = pz L I R (fl a b) := by
  have h1 := pz_div w R a
  have h2 := pz_div w R (fl a b)
  have h3 : fl a b / 2 = a / 2 := fl_div hb
  have h4 : fl a b % 2 = (a % 2 + b) % 2 := by unfold fl; omega
  rw [h3] at h2
  have h5 : fl (pz L I R a) b = 2 * (pz L I R a / 2) + (pz L I R a % 2 + b) % 2 := rfl
  omega
theorem pz_app {R : List Nat} {x : Nat} (hx : kn I R x) (m : Nat) : pz L I (R ++ [m]) x = pz L I R x := by
  unfold pz ps
  by_cases q : x / 2 = 0
  · rw [if_pos q, if_pos q]
  · rw [if_neg q, if_neg q]
    by_cases q1 : x / 2 ≤ I
    · rw [if_pos q1, if_pos q1]
    · rw [if_neg q1, if_neg q1, ix_app (hx.resolve_left q1)]
theorem kn.app {R : List Nat} {x : Nat} (hx : kn I R x) (m : Nat) : kn I (R ++ [m]) x := hx.imp id (List.mem_append_left _)
theorem kn.take {R : List Nat} {x k : Nat} (hx : kn I (R.take k) x) : kn I R x := hx.imp id List.mem_of_mem_take
def RI (I A : Nat) (hi lo fo : Nat → Nat) (R : List Nat) : Prop := R.Nodup ∧ ∀ k m, R[k]? = some m → (I < m ∧ m < I + 1 + A ∧ fo m = 2 * m) ∧ kn I (R.take k) (fX fo hi m) ∧ kn I (R.take k) (fX fo lo m)
theorem RI.len {R : List Nat} (h : RI I A hi lo fo R) : R.length ≤ A := by
  have := h.1.length_le_of_subset (l₂ := List.range' (I + 1) A) (fun m hm => by
    obtain ⟨k, hk, rfl⟩ := List.mem_iff_getElem.mp hm
    have := (h.2 k _ (List.getElem?_eq_getElem hk)).1
    exact List.mem_range'_1.mpr (by omega))
  rw [List.length_range'] at this
  exact this
theorem RI.add (fx : FX M I O A L OU G T dp hi lo fo) {R : List Nat} (h : RI I A hi lo fo R) {m : Nat} (hm : m ∉ R) (h1 : I < m) (h2 : m < I + 1 + A) (h3 : fo m = 2 * m) (k1 : kn I R (fX fo hi m)) (k2 : kn I R (fX fo lo m)) : RI I A hi lo fo (R ++ [m]) := by
  refine ⟨nd_snoc h.1 hm, fun k j hk => ?_⟩
  rcases get_app hk with ⟨a, b⟩ | ⟨a, b⟩
  · rw [List.take_append_of_le_length (Nat.le_of_lt a)]
    exact h.2 k j b
  · subst b
    rw [a, List.take_left']
    · exact ⟨⟨h1, h2, h3⟩, k1, k2⟩
    · rfl
