-- THE REFERENCE LOADS; what it keeps
def rT (h : sx_H) (tx : List Nat) : Prop := h.1 40 4 = nI tx.length ∧ tx.length ≤ 4096 ∧ ∀ i, i < tx.length → h.1 42 i = nI (tx.getD i 0)
def rM (h : sx_H) (M I O A : Nat) (L OU : List Nat) (G : List gt) : Prop :=
  (h.1 40 7 = nI M ∧ h.1 40 8 = nI I ∧ h.1 40 9 = nI A ∧ h.1 40 10 = nI O) ∧ (∀ i x, L[i]? = some x → h.1 43 i = nI x) ∧ (∀ i x, OU[i]? = some x → h.1 44 i = nI x) ∧
  (∀ k g, G[k]? = some g → h.1 45 k = nI g.1 ∧ h.1 46 k = nI (gM g) ∧ h.1 47 k = nI (gm g)) ∧ ∀ v, v ≤ 1000 → h.1 48 v = nI (kdv L G v)
def IR (h : sx_H) (n : Nat) (t : Nat → Nat) (tx : List Nat) (er pl M I O A : Nat) (L OU : List Nat) (G : List gt) : Prop :=
  mt h n t ∧ rT h tx ∧ (h.1 40 5 = nI er ∧ h.1 40 6 = nI pl) ∧ rM h M I O A L OU G
def kc (h h' : sx_H) : Prop := kp (fun b => 40 ≤ b) h h'
theorem kp.kc {S : Nat → Prop} {h h' : sx_H} (k : kp S h h') (hS : ∀ b, S b → 40 ≤ b) : kc h h' := k.mo hS
theorem rM.eq {h h' : sx_H} {M I O A : Nat} {L OU : List Nat} {G : List gt} (x : rM h M I O A L OU G) (e : ∀ j, 43 ≤ j → j ≤ 48 → h'.1 j = h.1 j) (f : ∀ k, 7 ≤ k → k ≤ 10 → h'.1 40 k = h.1 40 k) : rM h' M I O A L OU G := by
  unfold rM
  rw [e 43 (by decide) (by decide), e 44 (by decide) (by decide), e 45 (by decide) (by decide), e 46 (by decide) (by decide), e 47 (by decide) (by decide), e 48 (by decide) (by decide), f 7 (by decide) (by decide), f 8 (by decide) (by decide), f 9 (by decide) (by decide), f 10 (by decide) (by decide)]
  exact x
theorem rT.eq {h h' : sx_H} {tx : List Nat} (x : rT h tx) (e : h'.1 42 = h.1 42) (f : h'.1 40 4 = h.1 40 4) : rT h' tx := by
  unfold rT
  rw [e, f]
  exact x
theorem f_load {h : sx_H} {n er pl M I O A : Nat} {t : Nat → Nat} {tx L OU : List Nat} {G : List gt} {f : Int32 → sx_H → Prop} (ir : IR h n t tx er pl M I O A L OU G)
    (H0 : ∀ e, ldR t n (.inl e) → ∀ h', kc h h' → h'.1 40 0 = 0 → IR h' 0 t tx e.1 e.2 M I O A L OU G → f (nI e.1) h')
    (H1 : ∀ r : rC, ldR t n (.inr r) → ∀ h', kc h h' → h'.1 40 0 = 0 → IR h' 0 t tx 0 0 r.1.1 r.1.2.1 r.1.2.2.1 r.1.2.2.2 r.2.1 r.2.2.1 r.2.2.2 → f 0 h') :
    sx_X sx_w 94 0 [some (.ref 40), none, none] [] h (sx_qi f) := by
  obtain ⟨i1, i2, i3, i4⟩ := ir
  refine g_94_0 h 40 ⟨⟨rfl, rfl⟩, rfl, ?_⟩
  generalize eA : ((sx_u h.1 40 0 0, h.2.1, h.2.2) : sx_H) = hA
  have erA : sx_u h.1 40 0 0 = hA.1 := by rw [← eA]
  have kA : kp r40 h hA := by rw [← eA]; exact kp_hw (S := r40) rfl
  have a0 : hA.1 40 0 = 0 := by rw [← erA, sx_u_eq, va_up_self]
  have ak : ∀ k, k ≠ 0 → hA.1 40 k = h.1 40 k := fun k hk => by rw [← erA, sx_u_eq, va_up_ne _ _ hk]
  have mA : mt hA n t := i1.kp kA (ak 2 (by decide)) (by unfold r40; decide)
  have rXc : ∀ b, rX b → 40 ≤ b := fun b hb => by unfold rX at hb; omega
  refine f_reads mA (fun e he hp hl hB b => ⟨⟨rfl, rfl⟩, ⟨fun z => absurd z (nI_nle hp hl), fun _ => ?_⟩⟩) (fun r hr hB b rn => ⟨⟨rfl, rfl⟩, ⟨fun _ => ?_, fun z => absurd (by decide) z⟩⟩)
  · obtain ⟨⟨kB, fB⟩, e5, e6⟩ := b
    have kAB : kc h hB := (kA.kc (fun b hb => by unfold r40 at hb; omega)).tr (kB.kc rXc)
    have u40 : ∀ k, k ≠ 2 → sx_u hB.1 40 2 0 40 k = hB.1 40 k := fun k hk => by rw [sx_u_eq, va_up_ne _ _ hk]
    have ub : ∀ b, b ≠ 40 → sx_u hB.1 40 2 0 b = hB.1 b := fun b hb => sx_u_ne hb
    have f0 : ∀ k, fk k → k ≠ 0 → hB.1 40 k = h.1 40 k := fun k hk h0 => (fB k hk).trans (ak k h0)
    have nb : ∀ b, ¬ rX b → b ≠ 40 → hB.1 b = h.1 b := fun b hb h4 => (kB.i hb).trans (kA.i h4)
    refine H0 e he _ (kAB.tr (kp_hw (S := fun b => 40 ≤ b) (a := 40) (by decide))) ?_ ⟨⟨?_, Nat.zero_le _, fun i hi => absurd hi (Nat.not_lt_zero _)⟩, i2.eq ?_ ?_, ⟨?_, ?_⟩, i4.eq (fun j h1 h2 => ?_) (fun k h1 h2 => ?_)⟩
    · show sx_u hB.1 40 2 0 40 0 = 0
      rw [u40 0 (by decide), fB 0 (Or.inl rfl)]; exact a0
    · show sx_u hB.1 40 2 0 40 2 = nI 0
      rw [sx_u_eq, va_up_self]; rfl
    · show sx_u hB.1 40 2 0 42 = _
      rw [ub 42 (by decide)]; exact nb 42 (by unfold rX; decide) (by decide)
    · show sx_u hB.1 40 2 0 40 4 = _
      rw [u40 4 (by decide)]; exact f0 4 (by unfold fk; decide) (by decide)
    · show sx_u hB.1 40 2 0 40 5 = _
      rw [u40 5 (by decide)]; exact e5
    · show sx_u hB.1 40 2 0 40 6 = _
      rw [u40 6 (by decide)]; exact e6
    · show sx_u hB.1 40 2 0 j = _
      rw [ub j (by omega)]; exact nb j (by unfold rX; omega) (by omega)
    · show sx_u hB.1 40 2 0 40 k = _
      rw [u40 k (by omega)]; exact f0 k (by unfold fk; omega) (by omega)
  · obtain ⟨⟨kB, fB⟩, e5, e6⟩ := b
    have kAB : kc h hB := (kA.kc (fun b hb => by unfold r40 at hb; omega)).tr (kB.kc rXc)
    have nb : ∀ b, ¬ rX b → b ≠ 40 → hB.1 b = h.1 b := fun b hb h4 => (kB.i hb).trans (kA.i h4)
    have f0 : ∀ k, fk k → k ≠ 0 → hB.1 40 k = h.1 40 k := fun k hk h0 => (fB k hk).trans (ak k h0)
    have w := rd_wf hr.1
    have h17 : sx_u hB.1 40 2 0 40 17 = nI r.1.1 := by rw [sx_u_eq, va_up_ne _ _ (by decide)]; exact rn.1.1
    have h18 : ∀ v, sx_u (sx_u hB.1 40 2 0) 40 7 v 40 18 = nI r.1.2.1 := fun v => by rw [sx_u_eq, va_up_ne _ _ (by decide), sx_u_eq, va_up_ne _ _ (by decide)]; exact rn.1.2.1
    have h19 : ∀ v w, sx_u (sx_u (sx_u hB.1 40 2 0) 40 7 v) 40 8 w 40 19 = nI r.1.2.2.2 := fun v w => by rw [sx_u_eq, va_up_ne _ _ (by decide), sx_u_eq, va_up_ne _ _ (by decide), sx_u_eq, va_up_ne _ _ (by decide)]; exact rn.1.2.2.1
    have h20 : ∀ v w x, sx_u (sx_u (sx_u (sx_u hB.1 40 2 0) 40 7 v) 40 8 w) 40 9 x 40 20 = nI r.1.2.2.1 := fun v w x => by rw [sx_u_eq, va_up_ne _ _ (by decide), sx_u_eq, va_up_ne _ _ (by decide), sx_u_eq, va_up_ne _ _ (by decide), sx_u_eq, va_up_ne _ _ (by decide)]; exact rn.1.2.2.2
    rw [h17, h18, h19, h20]
    generalize eC : ((sx_u (sx_u (sx_u (sx_u (sx_u hB.1 40 2 0) 40 7 (nI r.1.1)) 40 8 (nI r.1.2.1)) 40 9 (nI r.1.2.2.2)) 40 10 (nI r.1.2.2.1), hB.2.1, hB.2.2) : sx_H) = hC
    have erC : sx_u (sx_u (sx_u (sx_u (sx_u hB.1 40 2 0) 40 7 (nI r.1.1)) 40 8 (nI r.1.2.1)) 40 9 (nI r.1.2.2.2)) 40 10 (nI r.1.2.2.1) = hC.1 := by rw [← eC]
    have c40 : ∀ k, hC.1 40 k = va_up (va_up (va_up (va_up (va_up (hB.1 40) 2 0) 7 (nI r.1.1)) 8 (nI r.1.2.1)) 9 (nI r.1.2.2.2)) 10 (nI r.1.2.2.1) k := fun k => by rw [← erC, sx_u_eq, sx_u_eq, sx_u_eq, sx_u_eq, sx_u_eq]
    have cb : ∀ b, b ≠ 40 → hC.1 b = hB.1 b := fun b hb => by rw [← erC, sx_u_ne hb, sx_u_ne hb, sx_u_ne hb, sx_u_ne hb, sx_u_ne hb]
    have kC : kc h hC := kAB.tr ⟨fun b hb => ⟨cb b (by omega), by rw [← eC]⟩, by rw [← eC]⟩
    have fin : ∀ h', kp (fun b => 43 ≤ b ∧ b ≤ 48) hC h' → (∀ i, i < 14 → h'.1 43 i = hC.1 49 i) → (∀ i, i < 16 → h'.1 44 i = hC.1 50 i) → (∀ i, i < 300 → h'.1 45 i = hC.1 51 i ∧ h'.1 46 i = hC.1 52 i ∧ h'.1 47 i = hC.1 53 i) → (∀ i, i < 1001 → h'.1 48 i = hC.1 54 i) → f 0 h' := fun h' k' q1 q2 q3 q4 => by
      have z40 : ∀ k, h'.1 40 k = hC.1 40 k := fun k => congrFun (k'.i (by omega)) k
      refine H1 r hr h' (kC.tr (k'.kc (fun b hb => by omega))) ?_ ⟨⟨?_, Nat.zero_le _, fun i hi => absurd hi (Nat.not_lt_zero _)⟩, i2.eq ?_ ?_, ⟨?_, ?_⟩, ⟨?_, ?_, ?_, ?_⟩, fun i x hi => ?_, fun i x hi => ?_, fun k g hg => ?_, fun v hv => ?_⟩
      · rw [z40, c40, va_up_ne _ _ (by decide), va_up_ne _ _ (by decide), va_up_ne _ _ (by decide), va_up_ne _ _ (by decide), va_up_ne _ _ (by decide), fB 0 (Or.inl rfl)]; exact a0
      · rw [z40, c40, va_up_ne _ _ (by decide), va_up_ne _ _ (by decide), va_up_ne _ _ (by decide), va_up_ne _ _ (by decide), va_up_self]; rfl
      · rw [k'.i (by omega), cb 42 (by decide)]; exact nb 42 (by unfold rX; decide) (by decide)
      · rw [z40, c40, va_up_ne _ _ (by decide), va_up_ne _ _ (by decide), va_up_ne _ _ (by decide), va_up_ne _ _ (by decide), va_up_ne _ _ (by decide)]; exact f0 4 (by unfold fk; decide) (by decide)
      · rw [z40, c40, va_up_ne _ _ (by decide), va_up_ne _ _ (by decide), va_up_ne _ _ (by decide), va_up_ne _ _ (by decide), va_up_ne _ _ (by decide)]; exact e5
      · rw [z40, c40, va_up_ne _ _ (by decide), va_up_ne _ _ (by decide), va_up_ne _ _ (by decide), va_up_ne _ _ (by decide), va_up_ne _ _ (by decide)]; exact e6
      · rw [z40, c40, va_up_ne _ _ (by decide), va_up_ne _ _ (by decide), va_up_ne _ _ (by decide), va_up_self]
      · rw [z40, c40, va_up_ne _ _ (by decide), va_up_ne _ _ (by decide), va_up_self]
      · rw [z40, c40, va_up_ne _ _ (by decide), va_up_self]
      · rw [z40, c40, va_up_self]
      · have := (List.getElem?_eq_some_iff.mp hi).1
        have := w.1; have := w.2.1
        rw [q1 i (by omega), cb 49 (by decide)]; exact rn.2.1 i x hi
      · have := (List.getElem?_eq_some_iff.mp hi).1
        have := w.1; have := w.2.1
        rw [q2 i (by omega), cb 50 (by decide)]; exact rn.2.2.1 i x hi
      · have := (List.getElem?_eq_some_iff.mp hg).1
        have := w.1; have := w.2.1
        obtain ⟨a, b, c⟩ := q3 k (by omega)
        rw [a, b, c, cb 51 (by decide), cb 52 (by decide), cb 53 (by decide)]; exact rn.2.2.2.1 k g hg
      · rw [q4 v (by omega), cb 54 (by decide)]; exact rn.2.2.2.2 v hv
    have sub : ∀ {h0 h1 : sx_H} {b : Nat}, 43 ≤ b → b ≤ 48 → ∀ {row : Nat → Int32}, kp (fun b => 43 ≤ b ∧ b ≤ 48) hC h0 → h1 = (va_up h0.1 b row, h0.2.1, h0.2.2) → kp (fun b => 43 ≤ b ∧ b ≤ 48) hC h1 := fun {h0 h1 b} g1 g2 {row} k0 e => by rw [e]; exact k0.tr (kp_hw (S := fun b => 43 ≤ b ∧ b ≤ 48) ⟨g1, g2⟩)
    have l4 : ∀ (e k : Nat) (h0 : sx_H), k + e = 1001 → kp (fun b => 43 ≤ b ∧ b ≤ 48) hC h0 → (∀ i, i < 14 → h0.1 43 i = hC.1 49 i) → (∀ i, i < 16 → h0.1 44 i = hC.1 50 i) → (∀ i, i < 300 → h0.1 45 i = hC.1 51 i ∧ h0.1 46 i = hC.1 52 i ∧ h0.1 47 i = hC.1 53 i) → (∀ i, i < k → h0.1 48 i = hC.1 54 i) → sx_X sx_w 94 158 [some (.ref 40), some (.int 0), some (.int (nI k))] [] h0 (sx_qi f) := by
      intro e
      induction e with
      | zero =>
        intro k h0 hk k0 q1 q2 q3 q4
        exact g_94_158 h0 40 _ _ (pk_le 1001 k (fun _ => fin h0 k0 q1 q2 q3 (fun i hi => q4 i (by omega))) (fun z => (by omega)))
      | succ e ih =>
        intro k h0 hk k0 q1 q2 q3 q4
        refine g_94_158 h0 40 _ _ (pk_le 1001 k (fun z => (by omega)) (fun _ => ⟨rfl, rfl, ⟨rfl, vp_in_nI (N := 1001) (by omega) (by decide)⟩, ⟨rfl, rfl, vp_in_nI (N := 1001) (by omega) (by decide)⟩, ?_⟩))
        rw [nI_clamp (by omega), nI_1]
        have n4 : ∀ b, b ≠ 48 → (sx_u h0.1 (40 + 8) k (h0.1 (40 + 14) k)) b = h0.1 b := fun b hb => sx_u_ne hb
        refine ih (k + 1) _ (by omega) (sub (b := 48) (by decide) (by decide) k0 rfl) (fun i hi => ?_) (fun i hi => ?_) (fun i hi => ?_) (fun i hi => ?_)
        · dsimp only
          rw [n4 43 (by decide)]; exact q1 i hi
        · dsimp only
          rw [n4 44 (by decide)]; exact q2 i hi
        · dsimp only
          rw [n4 45 (by decide), n4 46 (by decide), n4 47 (by decide)]; exact q3 i hi
        · show (sx_u h0.1 48 k (h0.1 54 k)) 48 i = _
          rw [sx_u_eq]
          by_cases q : i = k
          · rw [q, va_up_self, k0.i (by omega)]
          · rw [va_up_ne _ _ q]; exact q4 i (by omega)
    have l3 : ∀ (e k : Nat) (h0 : sx_H), k + e = 300 → kp (fun b => 43 ≤ b ∧ b ≤ 48) hC h0 → (∀ i, i < 14 → h0.1 43 i = hC.1 49 i) → (∀ i, i < 16 → h0.1 44 i = hC.1 50 i) → (∀ i, i < k → h0.1 45 i = hC.1 51 i ∧ h0.1 46 i = hC.1 52 i ∧ h0.1 47 i = hC.1 53 i) → sx_X sx_w 94 107 [some (.ref 40), some (.int 0), some (.int (nI k))] [] h0 (sx_qi f) := by
      intro e
      induction e with
      | zero =>
        intro k h0 hk k0 q1 q2 q3
        exact g_94_107 h0 40 _ _ (pk_le 300 k (fun _ => l4 1001 0 h0 rfl k0 q1 q2 (fun i hi => q3 i (by omega)) (fun i hi => absurd hi (Nat.not_lt_zero _))) (fun z => (by omega)))
      | succ e ih =>
        intro k h0 hk k0 q1 q2 q3
        have vg : ∀ j, j = 11 ∨ j = 12 ∨ j = 13 → (sx_w.1 (40 + j)).1 = 1 ∧ vp_in (nI k) (sx_w.1 (40 + j)).2 := fun j hj => by
          rcases hj with rfl | rfl | rfl <;> exact ⟨rfl, vp_in_nI (N := 300) (by omega) (by decide)⟩
        have vs : ∀ j, j = 5 ∨ j = 6 ∨ j = 7 → sx_w.2 = true ∧ (sx_w.1 (40 + j)).1 = 1 ∧ vp_in (nI k) (sx_w.1 (40 + j)).2 := fun j hj => by
          rcases hj with rfl | rfl | rfl <;> exact ⟨rfl, rfl, vp_in_nI (N := 300) (by omega) (by decide)⟩
        refine g_94_107 h0 40 _ _ (pk_le 300 k (fun z => (by omega)) (fun _ => ⟨rfl, rfl, vg 11 (by omega), vs 5 (by omega), rfl, rfl, vg 12 (by omega), vs 6 (by omega), rfl, rfl, vg 13 (by omega), vs 7 (by omega), ?_⟩))
        have e12 : ∀ v, sx_u h0.1 (40 + 5) k v (40 + 12) k = hC.1 52 k := fun v => by rw [sx_u_ne (by decide)]; exact congrFun (k0.i (b := 52) (by omega)) k
        have e13 : ∀ v w, sx_u (sx_u h0.1 (40 + 5) k v) (40 + 6) k w (40 + 13) k = hC.1 53 k := fun v w => by rw [sx_u_ne (by decide), sx_u_ne (by decide)]; exact congrFun (k0.i (b := 53) (by omega)) k
        rw [nI_clamp (by omega), nI_1, e12, e13, show h0.1 (40 + 11) k = hC.1 51 k from congrFun (k0.i (b := 51) (by omega)) k]
        have n4 : ∀ b, b ≠ 45 → b ≠ 46 → b ≠ 47 → (sx_u (sx_u (sx_u h0.1 (40 + 5) k (hC.1 51 k)) (40 + 6) k (hC.1 52 k)) (40 + 7) k (hC.1 53 k)) b = h0.1 b := fun b h5 h6 h7 => by rw [sx_u_ne h7, sx_u_ne h6, sx_u_ne h5]
        refine ih (k + 1) _ (by omega) (sub (b := 47) (by decide) (by decide) (sub (b := 46) (by decide) (by decide) (sub (b := 45) (by decide) (by decide) k0 rfl) rfl) rfl) (fun i hi => ?_) (fun i hi => ?_) (fun i hi => ?_)
        · dsimp only
          rw [n4 43 (by decide) (by decide) (by decide)]; exact q1 i hi
        · dsimp only
          rw [n4 44 (by decide) (by decide) (by decide)]; exact q2 i hi
        · show (sx_u (sx_u (sx_u h0.1 45 k (hC.1 51 k)) 46 k (hC.1 52 k)) 47 k (hC.1 53 k)) 45 i = _ ∧ (sx_u (sx_u (sx_u h0.1 45 k (hC.1 51 k)) 46 k (hC.1 52 k)) 47 k (hC.1 53 k)) 46 i = _ ∧ (sx_u (sx_u (sx_u h0.1 45 k (hC.1 51 k)) 46 k (hC.1 52 k)) 47 k (hC.1 53 k)) 47 i = _
          rw [sx_u_ne (b := 45) (by decide), sx_u_ne (b := 45) (by decide), sx_u_eq, sx_u_ne (b := 46) (by decide), sx_u_eq, sx_u_ne (b := 46) (by decide), sx_u_eq, sx_u_ne (b := 47) (by decide), sx_u_ne (b := 47) (by decide)]
          by_cases q : i = k
          · rw [q, va_up_self, va_up_self, va_up_self]; exact ⟨rfl, rfl, rfl⟩
          · rw [va_up_ne _ _ q, va_up_ne _ _ q, va_up_ne _ _ q]; exact q3 i (by omega)
    have l2 : ∀ (e k : Nat) (h0 : sx_H), k + e = 16 → kp (fun b => 43 ≤ b ∧ b ≤ 48) hC h0 → (∀ i, i < 14 → h0.1 43 i = hC.1 49 i) → (∀ i, i < k → h0.1 44 i = hC.1 50 i) → sx_X sx_w 94 81 [some (.ref 40), some (.int 0), some (.int (nI k))] [] h0 (sx_qi f) := by
      intro e
      induction e with
      | zero =>
        intro k h0 hk k0 q1 q2
        exact g_94_81 h0 40 _ _ (pk_le 16 k (fun _ => l3 300 0 h0 rfl k0 q1 (fun i hi => q2 i (by omega)) (fun i hi => absurd hi (Nat.not_lt_zero _))) (fun z => (by omega)))
      | succ e ih =>
        intro k h0 hk k0 q1 q2
        refine g_94_81 h0 40 _ _ (pk_le 16 k (fun z => (by omega)) (fun _ => ⟨rfl, rfl, ⟨rfl, vp_in_nI (N := 16) (by omega) (by decide)⟩, ⟨rfl, rfl, vp_in_nI (N := 16) (by omega) (by decide)⟩, ?_⟩))
        rw [nI_clamp (by omega), nI_1]
        refine ih (k + 1) _ (by omega) (sub (b := 44) (by decide) (by decide) k0 rfl) (fun i hi => ?_) (fun i hi => ?_)
        · dsimp only
          rw [sx_u_ne (by decide)]; exact q1 i hi
        · show (sx_u h0.1 44 k (h0.1 50 k)) 44 i = _
          rw [sx_u_eq]
          by_cases q : i = k
          · rw [q, va_up_self, k0.i (by omega)]
          · rw [va_up_ne _ _ q]; exact q2 i (by omega)
    have l1 : ∀ (e k : Nat) (h0 : sx_H), k + e = 14 → kp (fun b => 43 ≤ b ∧ b ≤ 48) hC h0 → (∀ i, i < k → h0.1 43 i = hC.1 49 i) → sx_X sx_w 94 55 [some (.ref 40), some (.int 0), some (.int (nI k))] [] h0 (sx_qi f) := by
      intro e
      induction e with
      | zero =>
        intro k h0 hk k0 q1
        exact g_94_55 h0 40 _ _ (pk_le 14 k (fun _ => l2 16 0 h0 rfl k0 (fun i hi => q1 i (by omega)) (fun i hi => absurd hi (Nat.not_lt_zero _))) (fun z => (by omega)))
      | succ e ih =>
        intro k h0 hk k0 q1
        refine g_94_55 h0 40 _ _ (pk_le 14 k (fun z => (by omega)) (fun _ => ⟨rfl, rfl, ⟨rfl, vp_in_nI (N := 14) (by omega) (by decide)⟩, ⟨rfl, rfl, vp_in_nI (N := 14) (by omega) (by decide)⟩, ?_⟩))
        rw [nI_clamp (by omega), nI_1]
        refine ih (k + 1) _ (by omega) (sub (b := 43) (by decide) (by decide) k0 rfl) (fun i hi => ?_)
        show (sx_u h0.1 43 k (h0.1 49 k)) 43 i = _
        rw [sx_u_eq]
        by_cases q : i = k
        · rw [q, va_up_self, k0.i (by omega)]
        · rw [va_up_ne _ _ q]; exact q1 i (by omega)
    exact ⟨rfl, ⟨rfl, rfl⟩, rfl, ⟨rfl, rfl⟩, rfl, ⟨rfl, rfl⟩, rfl, ⟨rfl, rfl⟩, l1 14 0 hC rfl kp.rf (fun i hi => absurd hi (Nat.not_lt_zero _))⟩
