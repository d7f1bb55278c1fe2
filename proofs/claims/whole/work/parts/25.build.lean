-- A CIRCUIT AS IT IS READ: inputs L and outputs OU by their literals, gates G by (own, one, other)
abbrev gt : Type := Nat × Nat × Nat
def ndOK (row : Nat → Int32) (L : List Nat) (G : List gt) : Prop := ∀ v, v ≤ 1000 →
  (∃ i x, L[i]? = some x ∧ x / 2 = v ∧ row v = nI (i + 1)) ∨ (∃ k g, G[k]? = some g ∧ g.1 / 2 = v ∧ row v = nI (315 + k)) ∨ ((∀ x ∈ L, x / 2 ≠ v) ∧ (∀ g ∈ G, g.1 / 2 ≠ v) ∧ row v = 0)
abbrev fr (L : List Nat) (G : List gt) (v : Nat) : Prop := (∀ x ∈ L, x / 2 ≠ v) ∧ ∀ g ∈ G, g.1 / 2 ≠ v
theorem ndOK.fr {row : Nat → Int32} {L : List Nat} {G : List gt} (h : ndOK row L G) (hL : L.length ≤ 14) (hG : G.length ≤ 300) {v : Nat} (hv : v ≤ 1000) : row v = 0 ↔ fr L G v := by
  rcases h v hv with ⟨i, x, h1, h2, h3⟩ | ⟨k, g, h1, h2, h3⟩ | ⟨h1, h2, h3⟩
  · have hi := (List.getElem?_eq_some_iff.mp h1).1
    refine ⟨fun z => ?_, fun z => absurd h2 (z.1 x (List.mem_of_getElem? h1))⟩
    rw [h3] at z
    exact absurd z (nI_ne0 (by omega) (by omega))
  · have hk := (List.getElem?_eq_some_iff.mp h1).1
    refine ⟨fun z => ?_, fun z => absurd h2 (z.2 g (List.mem_of_getElem? h1))⟩
    rw [h3] at z
    exact absurd z (nI_ne0 (by omega) (by omega))
  · exact ⟨fun _ => ⟨h1, h2⟩, fun _ => h3⟩
theorem get_app {α : Type} {L : List α} {x y : α} {i : Nat} (h : (L ++ [x])[i]? = some y) : (i < L.length ∧ L[i]? = some y) ∨ (i = L.length ∧ y = x) := by
  by_cases hi : i < L.length
  · rw [List.getElem?_append_left hi] at h; exact Or.inl ⟨hi, h⟩
  · rw [List.getElem?_append_right (by omega)] at h
    have : i - L.length = 0 := by
      rcases Nat.eq_zero_or_pos (i - L.length) with q | q
      · exact q
      · rw [List.getElem?_eq_none (by simp; omega)] at h; cases h
    rw [this] at h
    cases h
    exact Or.inr ⟨by omega, rfl⟩
theorem app_get {α : Type} {L : List α} {x y : α} {i : Nat} (h : L[i]? = some y) : (L ++ [x])[i]? = some y := by
  rw [List.getElem?_append_left (List.getElem?_eq_some_iff.mp h).1]; exact h
theorem app_last {α : Type} {L : List α} {x : α} : (L ++ [x])[L.length]? = some x := by simp
theorem ndOK.inp {row : Nat → Int32} {L : List Nat} {G : List gt} (h : ndOK row L G) (x : Nat) : ndOK (va_up row (x / 2) (nI (L.length + 1))) (L ++ [x]) G := by
  intro v hv
  by_cases e : v = x / 2
  · subst e
    exact Or.inl ⟨L.length, x, app_last, rfl, va_up_self _ _ _⟩
  · rw [va_up_ne _ _ e]
    rcases h v hv with ⟨i, y, h1, h2, h3⟩ | ⟨k, g, h1, h2, h3⟩ | ⟨h1, h2, h3⟩
    · exact Or.inl ⟨i, y, app_get h1, h2, h3⟩
    · exact Or.inr (Or.inl ⟨k, g, h1, h2, h3⟩)
    · refine Or.inr (Or.inr ⟨fun y hy => ?_, h2, h3⟩)
      rcases List.mem_append.mp hy with hy | hy
      · exact h1 y hy
      · rw [List.mem_singleton.mp hy]; exact fun q => e q.symm
theorem ndOK.gat {row : Nat → Int32} {L : List Nat} {G : List gt} (h : ndOK row L G) (x : gt) : ndOK (va_up row (x.1 / 2) (nI (315 + G.length))) L (G ++ [x]) := by
  intro v hv
  by_cases e : v = x.1 / 2
  · subst e
    exact Or.inr (Or.inl ⟨G.length, x, app_last, rfl, va_up_self _ _ _⟩)
  · rw [va_up_ne _ _ e]
    rcases h v hv with ⟨i, y, h1, h2, h3⟩ | ⟨k, g, h1, h2, h3⟩ | ⟨h1, h2, h3⟩
    · exact Or.inl ⟨i, y, h1, h2, h3⟩
    · exact Or.inr (Or.inl ⟨k, g, app_get h1, h2, h3⟩)
    · refine Or.inr (Or.inr ⟨h1, fun y hy => ?_, h3⟩)
      rcases List.mem_append.mp hy with hy | hy
      · exact h2 y hy
      · rw [List.mem_singleton.mp hy]; exact fun q => e q.symm
def rI (h : sx_H) (c M I O A : Nat) (L OU : List Nat) (G : List gt) : Prop :=
  (h.1 c 0 = nI I ∧ h.1 c 1 = nI A ∧ h.1 c 2 = nI O ∧ h.1 c 3 = nI M) ∧ (∀ i x, L[i]? = some x → h.1 (c + 1) i = nI x) ∧ (∀ i x, OU[i]? = some x → h.1 (c + 2) i = nI x) ∧
  (∀ k g, G[k]? = some g → h.1 (c + 3) k = nI g.1 ∧ h.1 (c + 4) k = nI (max g.2.1 g.2.2) ∧ h.1 (c + 5) k = nI (min g.2.1 g.2.2)) ∧ (∀ i, i < 315 → h.1 (c + 6) i = 0) ∧ ndOK (h.1 (c + 7)) L G
/-- the cells that reading into c may change -/
def sC (c : Nat) : Nat → Prop := fun b => b = 1 ∨ b = 4 ∨ b = 5 ∨ (c ≤ b ∧ b ≤ c + 10)
theorem s145_C {c : Nat} : ∀ b, s145 b → sC c b := fun b h => by unfold s145 at h; unfold sC; omega
theorem s1_C {c : Nat} : ∀ b, s1 b → sC c b := fun b h => Or.inl h
theorem rI.kp {h h' : sx_H} {c M I O A : Nat} {L OU : List Nat} {G : List gt} (x : rI h c M I O A L OU G) (hc : cc c) (k : kp s145 h h') : rI h' c M I O A L OU G := by
  have e : ∀ j, j ≤ 10 → h'.1 (c + j) = h.1 (c + j) := fun j hj => k.i (by unfold s145 ; unfold cc at hc; omega)
  have e0 : h'.1 c = h.1 c := e 0 (by omega)
  unfold rI
  rw [e0, e 1 (by omega), e 2 (by omega), e 3 (by omega), e 4 (by omega), e 5 (by omega), e 6 (by omega), e 7 (by omega)]
  exact x
theorem br2C {h h' : sx_H} {n c : Nat} {t : Nat → Nat} (x : br h 2 1024 n t) (hc : cc c) (k : kp (sC c) h h') : br h' 2 1024 n t := x.kp k (by unfold sC; unfold cc at hc; omega) (by unfold sC; unfold cc at hc; omega)
theorem hw_u7 {h : sx_H} {c a j : Nat} {row : Nat → Int32} (hj : a = c + j) (h10 : j ≤ 10) : kp (sC c) h (hw h a row) := kp_hw (S := sC c) (by unfold sC; omega)
theorem e_setInput {h : sx_H} {c M I O A x : Nat} {L OU : List Nat} {G : List gt} {f : sx_H → Prop} (hc : cc c) (hr : rI h c M I O A L OU G) (hL : L.length < 14) (hx : x ≤ 2001)
    (H : ∀ h', kp (sC c) h h' → h'.1 1 = h.1 1 → h'.1 4 = h.1 4 → h'.1 5 = h.1 5 → rI h' c M I O A (L ++ [x]) OU G → f h') : sx_X sx_w 5 0 [some (.ref c), some (.int (nI L.length)), some (.int (nI x))] [] h (sx_qv f) := by
  obtain ⟨q0, q1, q2, q3, q4, q5, q6, q7, -⟩ := cc_sh hc
  obtain ⟨r0, r1, r2, r3, r6, r7⟩ := hr
  refine g_5_0 h c _ _ ⟨q0, e_store (n := 14) rfl q1 (by decide) ⟨q0, ?_⟩⟩
  rw [st_nI hL (by decide), sh_half (by omega), nI_1]
  refine e_store (n := 1001) rfl q7 (by decide) ?_
  rw [st_nI (by omega) (by decide), hw_ne _ _ (by omega)]
  have d : ∀ b, b ≠ c + 1 → b ≠ c + 7 → (hw (hw h (c + 1) (va_up (h.1 (c + 1)) L.length (nI x))) (c + 7) (va_up (h.1 (c + 7)) (x / 2) (nI (L.length + 1)))).1 b = h.1 b := fun b h1 h2 => by rw [hw_ne _ _ h2, hw_ne _ _ h1]
  have hc' := hc
  unfold cc at hc'
  refine H _ ((hw_u7 (j := 1) rfl (by omega)).tr (hw_u7 (j := 7) rfl (by omega))) (d 1 (by omega) (by omega)) (d 4 (by omega) (by omega)) (d 5 (by omega) (by omega)) ?_
  refine ⟨?_, fun i y hi => ?_, fun i y hi => ?_, fun k g hk => ?_, fun i hi => ?_, ?_⟩
  · rw [d c (by omega) (by omega)]; exact r0
  · rw [hw_ne _ _ (by omega), hw_self]
    rcases get_app hi with ⟨h1, h2⟩ | ⟨h1, h2⟩
    · rw [va_up_ne _ _ (by omega)]; exact r1 i y h2
    · rw [h1, h2, va_up_self]
  · rw [d (c + 2) (by omega) (by omega)]; exact r2 i y hi
  · rw [d (c + 3) (by omega) (by omega), d (c + 4) (by omega) (by omega), d (c + 5) (by omega) (by omega)]; exact r3 k g hk
  · rw [d (c + 6) (by omega) (by omega)]; exact r6 i hi
  · rw [hw_self]; exact r7.inp x
theorem mx_nI {a b : Nat} (ha : a < 2 ^ 31) (hb : b < 2 ^ 31) : (if nI a < nI b then nI b else nI a) = nI (max a b) := by
  by_cases h : a < b
  · rw [if_pos (nI_lt h hb), Nat.max_eq_right (by omega)]
  · rw [if_neg (nI_nlt (by omega) ha), Nat.max_eq_left (by omega)]
theorem mn_nI {a b : Nat} (ha : a < 2 ^ 31) (hb : b < 2 ^ 31) : (if nI b < nI a then nI b else nI a) = nI (min a b) := by
  by_cases h : b < a
  · rw [if_pos (nI_lt h ha), Nat.min_eq_right (by omega)]
  · rw [if_neg (nI_nlt (by omega) hb), Nat.min_eq_left (by omega)]
theorem e_setGate {h : sx_H} {c M I O A x y z : Nat} {L OU : List Nat} {G : List gt} {f : sx_H → Prop} (hc : cc c) (hr : rI h c M I O A L OU G) (hG : G.length < 300) (hx : x ≤ 2001) (hy : y < 2 ^ 31) (hz : z < 2 ^ 31)
    (H : ∀ h', kp (sC c) h h' → h'.1 1 = h.1 1 → h'.1 4 = h.1 4 → h'.1 5 = h.1 5 → rI h' c M I O A L OU (G ++ [(x, y, z)]) → f h') : sx_X sx_w 6 0 [some (.ref c), some (.int (nI G.length)), some (.int (nI x)), some (.int (nI y)), some (.int (nI z))] [] h (sx_qv f) := by
  obtain ⟨q0, q1, q2, q3, q4, q5, q6, q7, -⟩ := cc_sh hc
  obtain ⟨r0, r1, r2, r3, r6, r7⟩ := hr
  have hc' := hc
  unfold cc at hc'
  refine g_6_0 h c _ _ _ _ ⟨q0, e_store (n := 300) rfl q3 (by decide) ⟨q0, e_store (n := 300) rfl q4 (by decide) ⟨q0, e_store (n := 300) rfl q5 (by decide) ⟨q0, ?_⟩⟩⟩⟩
  rw [mx_nI hy hz, mn_nI hy hz, st_nI hG (by decide), st_nI hG (by decide), st_nI hG (by decide), sh_half (by omega), show (315 : Int32) = nI 315 from rfl, nI_add]
  refine e_store (n := 1001) rfl q7 (by decide) ?_
  rw [st_nI (by omega) (by decide)]
  generalize e : hw (hw (hw (hw h (c + 3) _) (c + 4) _) (c + 5) _) (c + 7) _ = h'
  have d : ∀ b, b ≠ c + 3 → b ≠ c + 4 → b ≠ c + 5 → b ≠ c + 7 → h'.1 b = h.1 b := fun b h1 h2 h3 h4 => by rw [← e, hw_ne _ _ h4, hw_ne _ _ h3, hw_ne _ _ h2, hw_ne _ _ h1]
  have d3 : h'.1 (c + 3) = va_up (h.1 (c + 3)) G.length (nI x) := by rw [← e, hw_ne _ _ (by omega), hw_ne _ _ (by omega), hw_ne _ _ (by omega), hw_self]
  have d4 : h'.1 (c + 4) = va_up (h.1 (c + 4)) G.length (nI (max y z)) := by rw [← e, hw_ne _ _ (by omega), hw_ne _ _ (by omega), hw_self, hw_ne _ _ (by omega)]
  have d5 : h'.1 (c + 5) = va_up (h.1 (c + 5)) G.length (nI (min y z)) := by rw [← e, hw_ne _ _ (by omega), hw_self, hw_ne _ _ (by omega), hw_ne _ _ (by omega)]
  have d7 : h'.1 (c + 7) = va_up (h.1 (c + 7)) (x / 2) (nI (315 + G.length)) := by rw [← e, hw_self, hw_ne _ _ (by omega), hw_ne _ _ (by omega), hw_ne _ _ (by omega)]
  refine H _ ?_ (d 1 (by omega) (by omega) (by omega) (by omega)) (d 4 (by omega) (by omega) (by omega) (by omega)) (d 5 (by omega) (by omega) (by omega) (by omega)) ?_
  · rw [← e]
    exact (((hw_u7 (j := 3) rfl (by omega)).tr (hw_u7 (j := 4) rfl (by omega))).tr (hw_u7 (j := 5) rfl (by omega))).tr (hw_u7 (j := 7) rfl (by omega))
  refine ⟨?_, fun i w hi => ?_, fun i w hi => ?_, fun k g hk => ?_, fun i hi => ?_, ?_⟩
  · rw [d c (by omega) (by omega) (by omega) (by omega)]; exact r0
  · rw [d (c + 1) (by omega) (by omega) (by omega) (by omega)]; exact r1 i w hi
  · rw [d (c + 2) (by omega) (by omega) (by omega) (by omega)]; exact r2 i w hi
  · rw [d3, d4, d5]
    rcases get_app hk with ⟨h1, h2⟩ | ⟨h1, h2⟩
    · rw [va_up_ne _ _ (by omega), va_up_ne _ _ (by omega), va_up_ne _ _ (by omega)]; exact r3 k g h2
    · rw [h1, h2, va_up_self, va_up_self, va_up_self]; exact ⟨rfl, rfl, rfl⟩
  · rw [d (c + 6) (by omega) (by omega) (by omega) (by omega)]; exact r6 i hi
  · rw [d7]; exact r7.gat (x, y, z)
/-- an output is laid -/
theorem rI.out {h : sx_H} {c M I O A x : Nat} {L OU : List Nat} {G : List gt} (hc : cc c) (hr : rI h c M I O A L OU G) : rI (hw h (c + 2) (va_up (h.1 (c + 2)) OU.length (nI x))) c M I O A L (OU ++ [x]) G := by
  obtain ⟨r0, r1, r2, r3, r6, r7⟩ := hr
  have d : ∀ b, b ≠ c + 2 → (hw h (c + 2) (va_up (h.1 (c + 2)) OU.length (nI x))).1 b = h.1 b := fun b h1 => hw_ne _ _ h1
  refine ⟨by rw [d c (by omega)]; exact r0, fun i w hi => by rw [d (c + 1) (by omega)]; exact r1 i w hi, fun i w hi => ?_, fun k g hk => by rw [d (c + 3) (by omega), d (c + 4) (by omega), d (c + 5) (by omega)]; exact r3 k g hk, fun i hi => by rw [d (c + 6) (by omega)]; exact r6 i hi, by rw [d (c + 7) (by omega)]; exact r7⟩
  rw [hw_self]
  rcases get_app hi with ⟨h1, h2⟩ | ⟨h1, h2⟩
  · rw [va_up_ne _ _ (by omega)]; exact r2 i w h2
  · rw [h1, h2, va_up_self]
