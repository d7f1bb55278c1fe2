-- THE NUMBERS that write gives
variable {M I O A : Nat} {L OU : List Nat} {G : List gt} {T : List Nat} {dp hi lo fo : Nat → Nat}
theorem cnP_none {α : Type} {P : α → Prop} : ∀ {l : List α}, (∀ a ∈ l, ¬ P a) → cnP P l = 0
  | [], _ => rfl
  | a :: l, h => by rw [cnP_n (h a List.mem_cons_self), cnP_none (fun b hb => h b (List.mem_cons_of_mem _ hb))]
/-- the node of the j-th gate variable -/
theorem NP.tat (np : NP M I O A L OU G T dp hi lo) {j u : Nat} (h : T[j]? = some u) : (sv L ++ T).idxOf u = I + 1 + j ∧ u ∈ sv L ++ T := by
  have e : (sv L ++ T)[I + 1 + j]? = some u := by
    have hl := sv_len L
    rw [np.1.2.1.1] at hl
    rw [List.getElem?_append_right (by omega), hl, show I + 1 + j - (I + 1) = j by omega]
    exact h
  exact ⟨ix_of np.2.2.2.1.1 e, List.mem_of_getElem? e⟩
theorem NP.oat (np : NP M I O A L OU G T dp hi lo) {j u : Nat} (h : T[j]? = some u) : oC I A hi lo fo (sv L ++ T) OU (I + 1 + j) ↔ rch G (oS OU) u := by
  obtain ⟨a, b⟩ := np.tat h
  rw [← a]
  exact np.oCr b
theorem NP.otake (np : NP M I O A L OU G T dp hi lo) : ∀ j, j ≤ T.length → cnP (oC I A hi lo fo (sv L ++ T) OU) (List.range' (I + 1) j) = cnP (rch G (oS OU)) (T.take j)
  | 0, _ => by rw [List.take_zero]; rfl
  | j + 1, h => by
    have hj : T[j]? = some T[j] := List.getElem?_eq_getElem h
    rw [List.range'_1_concat, List.take_succ_eq_append_getElem h, cnP_app, cnP_app, np.otake j (by omega)]
    congr 1
    have iff := np.oat (fo := fo) hj
    by_cases q : rch G (oS OU) T[j]
    · rw [cnP_y (iff.mpr q), cnP_y q]; rfl
    · rw [cnP_n (fun z => q (iff.mp z)), cnP_n q]; rfl
/-- how many are numbered before v in depth d -/
noncomputable def nb (G : List gt) (OU T : List Nat) (dp : Nat → Nat) (d v : Nat) : Nat := cnP (fun u => rch G (oS OU) u ∧ (dp u < d ∨ (dp u = d ∧ u < v))) T
theorem NP.many (np : NP M I O A L OU G T dp hi lo) : cnP (fun g : gt => rch G (oS OU) (g.1 / 2)) G = cnP (rch G (oS OU)) T := by
  rw [← np.cOr (fo := fun _ => 0)]
  show cnP (oC I A hi lo (fun _ => 0) (sv L ++ T) OU) (List.range' (I + 1) A) = _
  have e := np.2.2.2.2.2.1
  rw [np.otake A (by omega), List.take_of_length_le (by omega)]
theorem NP.rank (np : NP M I O A L OU G T dp hi lo) {j v : Nat} (hj : T[j]? = some v) : wr I (oC I A hi lo fo (sv L ++ T) OU) ((sv L ++ T).idxOf v) = I + 1 + cnP (rch G (oS OU)) (T.take j) := by
  have hl := (List.getElem?_eq_some_iff.mp hj).1
  rw [(np.tat hj).1]
  unfold wr
  rw [if_neg (by omega), show I + 1 + j - (I + 1) = j by omega, np.otake j (by omega)]
theorem NP.nbr (np : NP M I O A L OU G T dp hi lo) {j v : Nat} (hj : T[j]? = some v) : nb G OU T dp (dp v) v = cnP (rch G (oS OU)) (T.take j) := by
  obtain ⟨hl, e⟩ := List.getElem?_eq_some_iff.mp hj
  have pw := np.2.2.2.1.2.2.2.1
  unfold nb
  have sp : T = T.take j ++ T.drop j := (List.take_append_drop j T).symm
  have hd : T.drop j = v :: T.drop (j + 1) := by rw [← e]; exact List.drop_eq_getElem_cons hl
  rw [hd] at sp
  rw [sp] at pw
  obtain ⟨-, p2, p3⟩ := List.pairwise_append.mp pw
  obtain ⟨p4, -⟩ := List.pairwise_cons.mp p2
  conv => lhs; rw [sp]
  rw [cnP_app, cnP_none (l := v :: T.drop (j + 1)) (fun a ha z => ?_), Nat.add_zero]
  · refine cnP_cg (fun a ha => ⟨fun z => z.1, fun z => ⟨z, ?_⟩⟩)
    have := p3 a ha v List.mem_cons_self
    unfold lx at this
    omega
  · rcases List.mem_cons.mp ha with q | q
    · rw [q] at z
      omega
    · have := p4 a q
      unfold lx at this
      omega
theorem nb_y {d v : Nat} (hT : T.Nodup) (hv : v ∈ T) (hr : rch G (oS OU) v) (hd : dp v = d) : nb G OU T dp d (v + 1) = nb G OU T dp d v + 1 := by
  unfold nb
  induction T with
  | nil => cases hv
  | cons a T ih =>
    obtain ⟨n1, n2⟩ := List.nodup_cons.mp hT
    by_cases q : a = v
    · subst q
      rw [cnP_y (P := fun u => rch G (oS OU) u ∧ (dp u < d ∨ (dp u = d ∧ u < a + 1))) ⟨hr, Or.inr ⟨hd, Nat.lt_succ_self _⟩⟩, cnP_n (P := fun u => rch G (oS OU) u ∧ (dp u < d ∨ (dp u = d ∧ u < a))) (fun z => by omega), Nat.add_comm]
      congr 1
      refine cnP_cg (fun b hb => ⟨fun z => ⟨z.1, ?_⟩, fun z => ⟨z.1, by omega⟩⟩)
      have : b ≠ a := fun e => n1 (e ▸ hb)
      omega
    · have ih' := ih n2 ((List.mem_cons.mp hv).resolve_left (fun e => q e.symm))
      by_cases c : rch G (oS OU) a ∧ (dp a < d ∨ (dp a = d ∧ a < v))
      · rw [cnP_y (P := fun u => rch G (oS OU) u ∧ (dp u < d ∨ (dp u = d ∧ u < v + 1))) ⟨c.1, by omega⟩, cnP_y (P := fun u => rch G (oS OU) u ∧ (dp u < d ∨ (dp u = d ∧ u < v))) c, ih']
        omega
      · rw [cnP_n (P := fun u => rch G (oS OU) u ∧ (dp u < d ∨ (dp u = d ∧ u < v + 1))) (fun z => c ⟨z.1, by omega⟩), cnP_n (P := fun u => rch G (oS OU) u ∧ (dp u < d ∨ (dp u = d ∧ u < v))) c, ih']
theorem nb_n {d v : Nat} (h : v ∈ T → rch G (oS OU) v → dp v ≠ d) : nb G OU T dp d (v + 1) = nb G OU T dp d v := by
  unfold nb
  refine cnP_cg (fun a ha => ⟨fun z => ⟨z.1, ?_⟩, fun z => ⟨z.1, by omega⟩⟩)
  by_cases q : a = v
  · subst q
    have := h ha z.1
    omega
  · omega
theorem NP.nb1 (np : NP M I O A L OU G T dp hi lo) : nb G OU T dp 1 1 = 0 := by
  unfold nb
  refine cnP_none (fun a ha z => ?_)
  obtain ⟨g, hg, e⟩ := np.2.2.2.1.2.2.2.2 a ha
  have := np.dq g hg
  rw [e] at this
  have := (sv_gate np.1 hg).2.1
  omega
theorem NP.nbs (np : NP M I O A L OU G T dp hi lo) (d : Nat) : nb G OU T dp d (M + 1) = nb G OU T dp (d + 1) 1 := by
  unfold nb
  refine cnP_cg (fun a ha => ?_)
  obtain ⟨g, hg, e⟩ := np.2.2.2.1.2.2.2.2 a ha
  have := (sv_gate np.1 hg).2
  rw [e] at this
  exact ⟨fun z => ⟨z.1, by omega⟩, fun z => ⟨z.1, by omega⟩⟩
theorem nb_le {d v : Nat} : nb G OU T dp d v ≤ cnP (rch G (oS OU)) T := cnP_le (fun a _ z => z.1)
/-- when all are counted, all are numbered -/
theorem nb_all {d : Nat} (h : cnP (rch G (oS OU)) T ≤ nb G OU T dp d 1) (hT : ∀ a ∈ T, 1 ≤ a) {u : Nat} (hu : u ∈ T) (hr : rch G (oS OU) u) : dp u < d := by
  refine Classical.byContradiction (fun q => ?_)
  have : nb G OU T dp d 1 < cnP (rch G (oS OU)) T := cnP_lt (fun a _ z => z.1) ⟨u, hu, hr, fun z => by have := hT u hu; omega⟩
  omega
theorem NP.nbB (np : NP M I O A L OU G T dp hi lo) {d : Nat} (h : 315 < d) : cnP (rch G (oS OU)) T ≤ nb G OU T dp d 1 := cnP_le (fun a _ z => ⟨z, Or.inl (by have := np.dpB a; omega)⟩)
noncomputable def fil (P : Nat → Prop) (l : List Nat) : List Nat := l.filter (fun a => @decide (P a) (Classical.propDecidable _))
theorem fil_y {P : Nat → Prop} {a : Nat} {l : List Nat} (h : P a) : fil P (a :: l) = a :: fil P l := by
  unfold fil
  rw [List.filter_cons_of_pos (by exact @decide_eq_true _ (Classical.propDecidable _) h)]
theorem fil_n {P : Nat → Prop} {a : Nat} {l : List Nat} (h : ¬ P a) : fil P (a :: l) = fil P l := by
  unfold fil
  rw [List.filter_cons_of_neg (by simpa using h)]
theorem fil_len {P : Nat → Prop} (l : List Nat) : (fil P l).length = cnP P l := (cnP_fil l).symm
theorem fil_at {P : Nat → Prop} : ∀ {l : List Nat} {i u : Nat}, (fil P l)[i]? = some u → ∃ j : Nat, l[j]? = some u ∧ P u ∧ cnP P (l.take j) = i
  | [], i, u, h => by cases h
  | a :: l, i, u, h => by
    by_cases q : P a
    · rw [fil_y q] at h
      cases i with
      | zero =>
        cases h
        exact ⟨0, rfl, q, rfl⟩
      | succ i =>
        obtain ⟨j, j1, j2, j3⟩ := fil_at (l := l) (i := i) h
        exact ⟨j + 1, j1, j2, by rw [List.take_succ_cons, cnP_y q, j3]; omega⟩
    · rw [fil_n q] at h
      obtain ⟨j, j1, j2, j3⟩ := fil_at (l := l) h
      exact ⟨j + 1, j1, j2, by rw [List.take_succ_cons, cnP_n q, j3]⟩
theorem flat_eq {C P : Nat → Prop} {E F : Nat → List Nat} : ∀ {T : List Nat} {s : Nat}, (∀ (i u : Nat), T[i]? = some u → (C (s + i) ↔ P u) ∧ (C (s + i) → E (s + i) = F u) ∧ (¬ C (s + i) → E (s + i) = [])) → (List.range' s T.length).flatMap E = (fil P T).flatMap F
  | [], s, _ => rfl
  | a :: T, s, h => by
    obtain ⟨h1, h2, h3⟩ := h 0 a rfl
    rw [Nat.add_zero] at h1 h2 h3
    have ih := flat_eq (C := C) (P := P) (E := E) (F := F) (T := T) (s := s + 1) (fun i u hu => by
      rw [show s + 1 + i = s + (i + 1) by omega]
      exact h (i + 1) u hu)
    rw [List.length_cons, rg_cons, List.flatMap_cons, ih]
    by_cases q : P a
    · rw [fil_y q, List.flatMap_cons, h2 (h1.mpr q)]
    · rw [fil_n q, h3 (fun z => q (h1.mp z))]
      rfl
/-- a gate's text, by its variable -/
noncomputable def uF (bin : Bool) (I : Nat) (C : Nat → Prop) (hi lo : Nat → Nat) (S : List Nat) (u : Nat) : List Nat := gtx bin (wl I C (2 * S.idxOf u)) (wl I C (hi (S.idxOf u))) (wl I C (lo (S.idxOf u)))
theorem NP.flat (np : NP M I O A L OU G T dp hi lo) (bin : Bool) : (List.range' (I + 1) A).flatMap (ngx bin I (oC I A hi lo fo (sv L ++ T) OU) hi lo) = (fil (rch G (oS OU)) T).flatMap (uF bin I (oC I A hi lo fo (sv L ++ T) OU) hi lo (sv L ++ T)) := by
  rw [← np.2.2.2.2.2.1]
  refine flat_eq (C := oC I T.length hi lo fo (sv L ++ T) OU) (fun i u hu => ?_)
  rw [np.2.2.2.2.2.1]
  refine ⟨np.oat hu, fun z => ?_, fun z => ngx_n z⟩
  rw [ngx_y z]
  unfold uF
  rw [(np.tat hu).1]
