-- THE CLASS: literals that stand, cones of a literal and of the outputs, the numbers of what is written
def ith (M : Nat) (S : List Nat) (x : Int32) (m : Nat) : Prop := x = nI m ∧ m ≤ 2 * M + 1 ∧ m / 2 ∈ S
theorem CI.S0 {L T : List Nat} : (sv L ++ T)[0]? = some 0 := rfl
theorem CI.row {h : sx_H} {c M I O A : Nat} {L OU : List Nat} {G : List gt} {T : List Nat} {dp hi lo fo : Nat → Nat} (x : CI h c M I O A L OU G T dp hi lo fo) {v : Nat} (hv : v ≤ 1000) (hn : v ∉ sv L ++ T) : h.1 (c + 7) v = 0 := by
  rcases x.2.2.1 v hv with ⟨n, e, -⟩ | ⟨-, k, g, e1, e2, -⟩ | ⟨-, -, e⟩
  · exact absurd (List.mem_of_getElem? e) hn
  · exact absurd (List.mem_append_right _ (e2 ▸ x.1.2.2.2.2.1 g (List.mem_of_getElem? e1))) hn
  · exact e
theorem CI.le {h : sx_H} {c M I O A : Nat} {L OU : List Nat} {G : List gt} {T : List Nat} {dp hi lo fo : Nat → Nat} (x : CI h c M I O A L OU G T dp hi lo fo) : M ≤ 1000 ∧ I ≤ 14 ∧ O ≤ 16 ∧ A ≤ 300 ∧ I + 1 + A ≤ 315 := by
  obtain ⟨a, b, c, d⟩ := x.1.1.1
  exact ⟨a, b, c, d, by omega⟩
theorem CI.nl {h : sx_H} {c M I O A : Nat} {L OU : List Nat} {G : List gt} {T : List Nat} {dp hi lo fo : Nat → Nat} (x : CI h c M I O A L OU G T dp hi lo fo) {m : Nat} (hm : m ≤ 2 * M + 1) (hs : m / 2 ∈ sv L ++ T) : nlI (h.1 (c + 7)) M (nI m) = nI (nl (sv L ++ T) m) ∧ nl (sv L ++ T) m / 2 < I + 1 + A := by
  have hl := x.1.len
  refine ⟨nl_ok x.2.2.1 x.1.2.2.2.1.1 rfl x.le.1 hm hs (by omega), ?_⟩
  have := nl_lt hs
  omega
theorem e_nodeLitC {sh : sx_S} {h : sx_H} {c M I O A : Nat} {L OU : List Nat} {G : List gt} {T : List Nat} {dp hi lo fo : Nat → Nat} {x : Int32} {f : Int32 → sx_H → Prop} (hs : sh.1 = sx_shp) (hc : cc c) (ci : CI h c M I O A L OU G T dp hi lo fo)
    (H1 : ∀ m, ith M (sv L ++ T) x m → nl (sv L ++ T) m / 2 < I + 1 + A → f (nI (nl (sv L ++ T) m)) h) (H0 : (¬ ∃ m, ith M (sv L ++ T) x m) → f (-1) h) :
    sx_X sh 11 0 [some (.ref c), some (.int x), none] [] h (sx_qi f) := by
  obtain ⟨q0, q1, q2, q3, q4, q5, q6, q7, q8, q9, q10⟩ := cc_sh hc
  rw [← hs] at q0 q7
  obtain ⟨lM, lI, lO, lA, lN⟩ := ci.le
  refine e_nodeLiteral q0 q7 ci.2.1.1.2.2.2 lM ?_
  by_cases q : ∃ m, ith M (sv L ++ T) x m
  · obtain ⟨m, e, hm, hs⟩ := q
    obtain ⟨a, b⟩ := ci.nl hm hs
    rw [e, a]
    exact H1 m ⟨e, hm, hs⟩ b
  · have e : nlI (h.1 (c + 7)) M x = -1 := by
      unfold nlI
      rw [if_neg]
      intro z
      apply q
      have hx : x = nI x.toInt.toNat := by
        obtain ⟨j, hj, e⟩ := nI_of (x := x) (fun y => by have := ix_lt.mp y; omega)
        rw [e, nI_toInt hj]
        rfl
      refine ⟨x.toInt.toNat, hx, by omega, Classical.byContradiction (fun y => ?_)⟩
      have r0 := ci.row (v := x.toInt.toNat / 2) (by omega) y
      rcases z.2.2 with z1 | z1
      · exact z1 r0
      · rw [show x.toInt.toNat / 2 = 0 by omega] at y
        exact y (List.mem_append_left _ List.mem_cons_self)
    rw [e]
    exact H0 q
theorem e_markCone {h : sx_H} {c M I O A x : Nat} {L OU : List Nat} {G : List gt} {T : List Nat} {dp hi lo fo : Nat → Nat} {f : Int32 → sx_H → Prop} (hc : cc c) (ci : CI h c M I O A L OU G T dp hi lo fo) (hx : x / 2 < I + 1 + A)
    (H : ∀ h', kp (fun b => b = 12) h h' → f (nI (cnP (cn I (I + 1 + A) (fun k => k = x / 2) (fun n => hi n / 2) (fun n => lo n / 2)) (List.range' (I + 1) A))) h') :
    sx_X sx_w 49 0 [some (.ref 10), some (.ref c), some (.int (nI x))] [] h (sx_qi f) := by
  obtain ⟨lM, lI, lO, lA, lN⟩ := ci.le
  have hc' := hc
  unfold cc at hc'
  refine g_49_0 h 10 c _ ⟨rfl, e_fill (a := 10 + 2) (n := 315) rfl rfl (by decide) (fun row hrow => ⟨rfl, e_mark (by omega) ⟨rfl, ?_⟩⟩)⟩
  generalize e : hw (hw h (10 + 2) row) 12 (va_up ((hw h (10 + 2) row).1 12) (x / 2) 1) = h1
  have k1 : kp (fun b => b = 12) h h1 := by
    rw [← e]
    exact (kp_hw (S := fun b => b = 12) (a := 10 + 2) rfl).tr (kp_hw (S := fun b => b = 12) rfl)
  have e12 : h1.1 12 = va_up row (x / 2) 1 := by
    rw [← e, hw_self]
    show va_up ((hw h 12 row).1 12) _ _ = _
    rw [hw_self]
  have ci1 := ci.eq (h' := h1) (fun j hj => k1.i (fun q : c + j = 12 => by omega))
  refine e_markNeeds (w := false) (sd := fun k => k = x / 2) (hi := hi) (lo := lo) (fo := fo) hc ci1.2.1.1.1 ci1.2.1.1.2.1 lN ci1.2.2.2.2.1 ci1.2.2.2.2.2.1 (fun k hk => ?_) (fun h2 k2 iff => H h2 (k1.tr k2))
  rw [e12]
  by_cases q : k = x / 2
  · rw [q, va_up_self]; exact ⟨fun _ => rfl, fun _ => rfl⟩
  · rw [va_up_ne _ _ q, hrow k hk]
    exact ⟨fun z => absurd z (by decide), fun z => absurd z q⟩
def sdO (w : Bool) (fo : Nat → Nat) (S OU : List Nat) (k : Nat) : Prop := ∃ x ∈ OU, k = fw w fo (nl S x) / 2
theorem e_markOutputs {h : sx_H} {c M I O A : Nat} {w : Bool} {L OU : List Nat} {G : List gt} {T : List Nat} {dp hi lo fo : Nat → Nat} {f : Int32 → sx_H → Prop} (hc : cc c) (ci : CI h c M I O A L OU G T dp hi lo fo)
    (H : ∀ h', kp (fun b => b = 12) h h' → (∀ k, k < I + 1 + A → (h'.1 12 k = 1 ↔ cn I (I + 1 + A) (sdO w fo (sv L ++ T) OU) (fun n => fw w fo (hi n) / 2) (fun n => fw w fo (lo n) / 2) k)) → f (nI (cnP (cn I (I + 1 + A) (sdO w fo (sv L ++ T) OU) (fun n => fw w fo (hi n) / 2) (fun n => fw w fo (lo n) / 2)) (List.range' (I + 1) A))) h') :
    sx_X sx_w 50 0 [some (.ref 10), some (.ref c), some (.int (if w then 1 else 0)), none] [] h (sx_qi f) := by
  obtain ⟨q0, q1, q2, q3, q4, q5, q6, q7, q8, q9, q10⟩ := cc_sh hc
  obtain ⟨lM, lI, lO, lA, lN⟩ := ci.le
  have hc' := hc
  unfold cc at hc'
  have lOU := ci.1.1.2.1.2.1
  have key : ∀ (rest : List Nat) (o : Nat) (h0 : sx_H), OU.drop o = rest → o ≤ OU.length → kp (fun b => b = 12) h h0 → (∀ k, k < 315 → (h0.1 12 k = 1 ↔ sdO w fo (sv L ++ T) (OU.take o) k)) → sx_X sx_w 50 10 [some (.ref 10), some (.ref c), some (.int (if w then 1 else 0)), some (.int (nI o))] [] h0 (sx_qi f) := by
    intro rest
    induction rest with
    | nil =>
      intro o h0 hd ho k0 hk
      have ci0 := ci.eq (h' := h0) (fun j hj => k0.i (fun q : c + j = 12 => by omega))
      have := dropn hd
      refine g_50_10 h0 10 c _ _ ⟨q0, ?_⟩
      rw [ci0.2.1.1.2.2.1]
      refine pk_le O o (fun _ => ⟨rfl, ?_⟩) (fun z => (by omega))
      rw [show OU.take o = OU from List.take_of_length_le (by omega)] at hk
      exact e_markNeeds (w := w) (sd := sdO w fo (sv L ++ T) OU) (hi := hi) (lo := lo) (fo := fo) hc ci0.2.1.1.1 ci0.2.1.1.2.1 lN ci0.2.2.2.2.1 ci0.2.2.2.2.2.1 hk (fun h2 k2 iff => H h2 (k0.tr k2) iff)
    | cons x rest ih =>
      intro o h0 hd _ k0 hk
      obtain ⟨ho, hx, hd'⟩ := dropc hd
      have ci0 := ci.eq (h' := h0) (fun j hj => k0.i (fun q : c + j = 12 => by omega))
      have hxO := List.mem_of_getElem? hx
      have hx2 := ci.1.1.2.2.2.2 x hxO
      have hxS := ci.1.stn (ci.1.2.1 x hxO)
      obtain ⟨n1, n2⟩ := ci0.nl hx2 hxS
      have hf := ci0.2.2.2.2.2.1 _ n2
      refine g_50_10 h0 10 c _ _ ⟨q0, ?_⟩
      rw [ci0.2.1.1.2.2.1]
      refine pk_le O o (fun z => (by omega)) (fun _ => ⟨q0, e_pick q2 (by decide) ⟨q0, ?_⟩⟩)
      rw [pk_nI (by omega) (by decide), ci0.2.1.2.2.1 o x hx]
      refine e_nodeLiteral q0 q7 ci0.2.1.1.2.2.2 lM ⟨q0, ?_⟩
      rw [n1]
      have hle := fw_le (w := w) hf.2
      refine e_foldIf q0 q10 (by omega) hf.1 ⟨rfl, e_mark (by omega) ?_⟩
      rw [nI_1]
      refine ih (o + 1) _ hd' (by omega) (k0.tr (kp_hw (S := fun b => b = 12) rfl)) (fun k hk' => ?_)
      rw [hw_self]
      have et : OU.take (o + 1) = OU.take o ++ [x] := by
        obtain ⟨h1, h2⟩ := List.getElem?_eq_some_iff.mp hx
        rw [List.take_succ_eq_append_getElem h1, h2]
      rw [et]
      by_cases q : k = fw w fo (nl (sv L ++ T) x) / 2
      · rw [q, va_up_self]
        exact ⟨fun _ => ⟨x, List.mem_append_right _ (List.mem_singleton.mpr rfl), rfl⟩, fun _ => rfl⟩
      · rw [va_up_ne _ _ q, hk k hk']
        refine ⟨fun ⟨y, a, b⟩ => ⟨y, List.mem_append_left _ a, b⟩, fun ⟨y, a, b⟩ => ?_⟩
        rcases List.mem_append.mp a with a | a
        · exact ⟨y, a, b⟩
        · rw [List.mem_singleton.mp a] at b; exact absurd b q
  refine g_50_0 h 10 c _ ⟨rfl, e_fill (a := 10 + 2) (n := 315) rfl rfl (by decide) (fun row hrow => ?_)⟩
  refine key OU 0 _ rfl (Nat.zero_le _) (kp_hw (S := fun b => b = 12) rfl) (fun k hk => ?_)
  show (hw h 12 row).1 12 k = 1 ↔ _
  rw [hw_self, hrow k hk]
  refine ⟨fun z => absurd z (by decide), fun ⟨y, a, b⟩ => ?_⟩
  cases a
theorem cnP_app {α : Type} {P : α → Prop} : ∀ (l r : List α), cnP P (l ++ r) = cnP P l + cnP P r
  | [], r => (Nat.zero_add _).symm
  | a :: l, r => by
    show cnP P (a :: (l ++ r)) = _
    have := cnP_app (P := P) l r
    by_cases q : P a
    · rw [cnP_y q, cnP_y q]; omega
    · rw [cnP_n q, cnP_n q]; omega
noncomputable def wr (I : Nat) (C : Nat → Prop) (n : Nat) : Nat := if n ≤ I then n else I + 1 + cnP C (List.range' (I + 1) (n - (I + 1)))
theorem wr_y {I : Nat} {C : Nat → Prop} {n : Nat} (h : n ≤ I ∨ C n) : wr I C (n + 1) = wr I C n + 1 := by
  unfold wr
  by_cases q : n + 1 ≤ I
  · rw [if_pos q, if_pos (by omega)]
  · rw [if_neg q]
    by_cases q2 : n ≤ I
    · rw [if_pos q2, show n + 1 - (I + 1) = 0 by omega]
      show I + 1 + 0 = _
      omega
    · rw [if_neg q2, show n + 1 - (I + 1) = (n - (I + 1)) + 1 by omega, List.range'_1_concat, cnP_app, show I + 1 + (n - (I + 1)) = n by omega, cnP_y (h.resolve_left q2)]
      show _ + (_ + (1 + 0)) = _
      omega
theorem wr_n {I : Nat} {C : Nat → Prop} {n : Nat} (h : ¬ n ≤ I) (h2 : ¬ C n) : wr I C (n + 1) = wr I C n := by
  unfold wr
  rw [if_neg (by omega), if_neg h, show n + 1 - (I + 1) = (n - (I + 1)) + 1 by omega, List.range'_1_concat, cnP_app, show I + 1 + (n - (I + 1)) = n by omega, cnP_n h2]
  rfl
theorem wr_le {I : Nat} {C : Nat → Prop} (n : Nat) : wr I C n ≤ n := by
  unfold wr
  split
  · exact Nat.le_refl _
  · have := cnP_len (P := C) (List.range' (I + 1) (n - (I + 1)))
    rw [List.length_range'] at this
    omega
theorem e_numberMarked {h : sx_H} {c M I O A : Nat} {L OU : List Nat} {G : List gt} {T : List Nat} {dp hi lo fo : Nat → Nat} {C : Nat → Prop} {f : sx_H → Prop} (hc : cc c) (ci : CI h c M I O A L OU G T dp hi lo fo) (hC : ∀ k, k < I + 1 + A → (h.1 12 k = 1 ↔ C k))
    (H : ∀ h', kp (fun b => b = 13) h h' → (∀ n, n < I + 1 + A → (n ≤ I ∨ C n) → h'.1 13 n = nI (wr I C n)) → f h') :
    sx_X sx_w 54 0 [some (.ref 10), some (.ref c), none, none] [] h (sx_qv f) := by
  obtain ⟨q0, q1, q2, q3, q4, q5, q6, q7, q8, q9, q10⟩ := cc_sh hc
  obtain ⟨lM, lI, lO, lA, lN⟩ := ci.le
  have hc' := hc
  unfold cc at hc'
  have key : ∀ (e n : Nat) (h0 : sx_H), n + e = I + 1 + A → kp (fun b => b = 13) h h0 → (∀ k, k < n → (k ≤ I ∨ C k) → h0.1 13 k = nI (wr I C k)) → sx_X sx_w 54 4 [some (.ref 10), some (.ref c), some (.int (nI (wr I C n))), some (.int (nI n))] [] h0 (sx_qv f) := by
    intro e
    induction e with
    | zero =>
      intro n h0 hn k0 hk
      have ci0 := ci.eq (h' := h0) (fun j hj => k0.i (fun q : c + j = 13 => by omega))
      refine g_54_4 h0 10 c _ _ ⟨q0, e_nodeCount q0 ci0.2.1.1.1 ci0.2.1.1.2.1 (pk_le (I + 1 + A) n (fun _ => H h0 k0 (fun k a => hk k (by omega))) (fun z => (by omega)))⟩
    | succ e ih =>
      intro n h0 hn k0 hk
      have ci0 := ci.eq (h' := h0) (fun j hj => k0.i (fun q : c + j = 13 => by omega))
      refine g_54_4 h0 10 c _ _ ⟨q0, e_nodeCount q0 ci0.2.1.1.1 ci0.2.1.1.2.1 (pk_le (I + 1 + A) n (fun z => (by omega)) (fun _ => ⟨q0, ?_⟩))⟩
      rw [ci0.2.1.1.1]
      have sto : (n ≤ I ∨ C n) → sx_X sx_w 76 0 [some (.ref (10 + 3)), some (.int (nI n)), some (.int (nI (wr I C n)))] [] h0 (sx_qv fun h3 => sx_X sx_w 54 4 [some (.ref 10), some (.ref c), some (.int (nI (wr I C n) + 1)), some (.int (nI n + 1))] [] h3 (sx_qv f)) := fun hy => by
        refine e_store (a := 10 + 3) (n := 315) rfl rfl (by decide) ?_
        rw [st_nI (by omega) (by decide), nI_1, nI_1, ← wr_y hy]
        refine ih (n + 1) _ (by omega) (k0.tr (kp_hw (S := fun b => b = 13) rfl)) (fun k a b => ?_)
        show (hw h0 13 _).1 13 k = _
        rw [hw_self]
        by_cases q : k = n
        · rw [q, va_up_self]
        · rw [va_up_ne _ _ q]; exact hk k (by omega) b
      have iff : h0.1 12 n = 1 ↔ C n := by rw [k0.i (show ¬ 12 = 13 by decide)]; exact hC n (by omega)
      refine pk_le n I (fun z => ⟨rfl, sto (Or.inl z)⟩) (fun z => ⟨rfl, e_isMarked rfl (by omega) (fun hm => ⟨fun y => absurd y (by decide), fun _ => ⟨rfl, sto (Or.inr (iff.mp hm))⟩⟩) (fun hm => ⟨fun _ => ?_, fun y => absurd rfl y⟩)⟩)
      have hnC : ¬ C n := fun q => hm (iff.mpr q)
      rw [nI_1, ← wr_n (I := I) (C := C) (n := n) (by omega) hnC]
      refine ih (n + 1) h0 (by omega) k0 (fun k a b => ?_)
      by_cases q : k = n
      · rw [q] at b
        rcases b with b | b
        · omega
        · exact absurd b hnC
      · exact hk k (by omega) b
  exact g_54_0 h 10 c (key (I + 1 + A) 0 h (by omega) kp.rf (fun k hk => absurd hk (Nat.not_lt_zero _)))
