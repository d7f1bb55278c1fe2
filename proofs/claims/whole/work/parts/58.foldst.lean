-- THE REFERENCE'S FOLDS: the table, and one gate more
theorem pr2.sy {a b x y : Nat} (h : pr2 a b x y) : pr2 x y a b := by unfold pr2 at h ⊢; omega
theorem pr2.tr {a b x y u v : Nat} (h : pr2 a b x y) (k : pr2 x y u v) : pr2 a b u v := by unfold pr2 at h k ⊢; omega
variable {M I O A : Nat} {L OU : List Nat} {G : List gt} {T : List Nat} {dp hi lo fo : Nat → Nat}
theorem pr2_pz (w : wf M I O A L OU G) {R : List Nat} {a b x y : Nat} (ha : kn I R a) (hb : kn I R b) (hx : kn I R x) (hy : kn I R y) : pr2 (pz L I R a) (pz L I R b) (pz L I R x) (pz L I R y) ↔ pr2 a b x y := by
  unfold pr2
  rw [pz_eq w ha hx, pz_eq w hb hy, pz_eq w ha hy, pz_eq w hb hx]
def FS (c36 : Int32) (r60 r61 r62 : Nat → Int32) (I A : Nat) (L S : List Nat) (hi lo fo : Nat → Nat) (R : List Nat) (D : Nat → Prop) : Prop :=
  c36 = nI R.length ∧ RI I A hi lo fo R ∧
  (∃ p q : Nat → Nat, ∀ k m, R[k]? = some m → r61 k = nI (p k) ∧ r62 k = nI (q k) ∧ pr2 (p k) (q k) (pz L I R (fX fo hi m)) (pz L I R (fX fo lo m))) ∧
  ∀ n v, S[n]? = some v → (n ≤ I ∨ D v) → kn I R (fo n) ∧ r60 v = nI (pz L I R (fo n))
theorem pz_lt (w : wf M I O A L OU G) {R : List Nat} (hR : R.length ≤ 300) (x : Nat) : pz L I R x < 4000 := by
  unfold pz
  have : R.idxOf (x / 2) ≤ R.length := List.idxOf_le_length
  rcases ps_cl w R (x / 2) with ⟨-, e⟩ | ⟨-, y, -, e, -, hy, hx⟩ | ⟨-, e⟩ <;> omega
theorem FS.mono {c36 : Int32} {r60 r61 r62 : Nat → Int32} {S R : List Nat} {D D' : Nat → Prop} (h : FS c36 r60 r61 r62 I A L S hi lo fo R D) (m : ∀ n v, S[n]? = some v → I < n → D' v → D v) : FS c36 r60 r61 r62 I A L S hi lo fo R D' :=
  ⟨h.1, h.2.1, h.2.2.1, fun n v hv hd => h.2.2.2 n v hv (by
    by_cases q : n ≤ I
    · exact Or.inl q
    · exact Or.inr (m n v hv (by omega) (hd.resolve_left q)))⟩
theorem FS.put {c36 : Int32} {r60 r61 r62 : Nat → Int32} {S R : List Nat} {D : Nat → Prop} (h : FS c36 r60 r61 r62 I A L S hi lo fo R D) (hS : S.Nodup) {n v : Nat} (hv : S[n]? = some v) (hk : kn I R (fo n)) : FS c36 (va_up r60 v (nI (pz L I R (fo n)))) r61 r62 I A L S hi lo fo R (fun z => D z ∨ z = v) := by
  refine ⟨h.1, h.2.1, h.2.2.1, fun j u hu hd => ?_⟩
  by_cases q : u = v
  · subst q
    have : j = n := by rw [← ix_of hS hu, ix_of hS hv]
    subst this
    rw [va_up_self]
    exact ⟨hk, rfl⟩
  · rw [va_up_ne _ _ q]
    exact h.2.2.2 j u hu (hd.imp id (fun z => z.resolve_right q))
theorem FS.old {c36 : Int32} {r60 r61 r62 : Nat → Int32} {S R : List Nat} {D : Nat → Prop} (h : FS c36 r60 r61 r62 I A L S hi lo fo R D) {k m x y : Nat} (hk : R[k]? = some m) (hp : pr2 x y (pz L I R (fX fo hi m)) (pz L I R (fX fo lo m))) : FS c36 r60 (va_up r61 k (nI x)) (va_up r62 k (nI y)) I A L S hi lo fo R D := by
  obtain ⟨p, q, hpq⟩ := h.2.2.1
  refine ⟨h.1, h.2.1, ⟨va_up p k x, va_up q k y, fun j m' hj => ?_⟩, h.2.2.2⟩
  by_cases e : j = k
  · subst e
    rw [hk] at hj
    cases hj
    rw [va_up_self, va_up_self, va_up_self, va_up_self]
    exact ⟨rfl, rfl, hp⟩
  · rw [va_up_ne _ _ e, va_up_ne _ _ e, va_up_ne _ _ e, va_up_ne _ _ e]
    exact hpq j m' hj
theorem FS.new {c36 : Int32} {r60 r61 r62 : Nat → Int32} {S R : List Nat} {D : Nat → Prop} (fx : FX M I O A L OU G T dp hi lo fo) (h : FS c36 r60 r61 r62 I A L S hi lo fo R D) {m x y : Nat} (hm : m ∉ R) (h1 : I < m) (h2 : m < I + 1 + A) (h3 : fo m = 2 * m) (k1 : kn I R (fX fo hi m)) (k2 : kn I R (fX fo lo m)) (hp : pr2 x y (pz L I R (fX fo hi m)) (pz L I R (fX fo lo m))) : FS (nI (R.length + 1)) r60 (va_up r61 R.length (nI x)) (va_up r62 R.length (nI y)) I A L S hi lo fo (R ++ [m]) D := by
  obtain ⟨p, q, hpq⟩ := h.2.2.1
  refine ⟨by rw [List.length_append]; rfl, h.2.1.add fx hm h1 h2 h3 k1 k2, ⟨va_up p R.length x, va_up q R.length y, fun j m' hj => ?_⟩, fun n v hv hd => ?_⟩
  · rcases get_app hj with ⟨a, b⟩ | ⟨a, b⟩
    · have hr := (h.2.1.2 j m' b).2
      rw [va_up_ne _ _ (by omega), va_up_ne _ _ (by omega), va_up_ne _ _ (by omega), va_up_ne _ _ (by omega), pz_app hr.1.take, pz_app hr.2.take]
      exact hpq j m' b
    · subst a b
      rw [va_up_self, va_up_self, va_up_self, va_up_self, pz_app k1, pz_app k2]
      exact ⟨rfl, rfl, hp⟩
  · obtain ⟨a, b⟩ := h.2.2.2 n v hv hd
    exact ⟨a.app m, by rw [pz_app a]; exact b⟩
theorem pz_root {R : List Nat} {k m : Nat} (hR : R.Nodup) (hk : R[k]? = some m) (h1 : I < m) : pz L I R (2 * m) = 3000 + 2 * k ∧ kn I R (2 * m) := by
  have e : 2 * m / 2 = m := by omega
  refine ⟨?_, Or.inr (by rw [e]; exact List.mem_of_getElem? hk)⟩
  unfold pz ps
  rw [e, if_neg (by omega), if_neg (by omega), ix_of hR hk]
  omega
theorem FX.some (fx : FX M I O A L OU G T dp hi lo fo) {n u : Nat} (h1 : I < n) (h2 : n < I + 1 + A) (hb : bs (fX fo hi n) (fX fo lo n) = Option.some u) : fo n = u := by
  rcases fx.2.2.2 n h1 h2 with ⟨v, hv, e⟩ | ⟨hn, -⟩
  · rw [hb] at hv; cases hv; exact e
  · rw [hb] at hn; cases hn
/-- a literal of the circuit, folded by the class -/
def lf (S : List Nat) (fo : Nat → Nat) (x : Nat) : Nat := fl (fo (S.idxOf (x / 2))) (x % 2)
theorem lf_fw (S : List Nat) (fo : Nat → Nat) (x : Nat) : fw true fo (nl S x) = lf S fo x := by
  show fl (fo (nl S x / 2)) (nl S x % 2) = _
  rw [(nl_half S x).1, (nl_half S x).2]
  rfl
theorem FX.two (fx : FX M I O A L OU G T dp hi lo fo) {g : gt} (hg : g ∈ G) : pr2 (fX fo hi ((sv L ++ T).idxOf (g.1 / 2))) (fX fo lo ((sv L ++ T).idxOf (g.1 / 2))) (lf (sv L ++ T) fo (gM g)) (lf (sv L ++ T) fo (gm g)) := by
  have e : ∀ (f : Nat → Nat) n x, f n = nl (sv L ++ T) x → fX fo f n = lf (sv L ++ T) fo x := fun f n x he => by
    rw [← lf_fw, ← he]; rfl
  rcases fx.1.two hg with ⟨a, b⟩ | ⟨a, b⟩
  · exact Or.inl ⟨e _ _ _ a, e _ _ _ b⟩
  · exact Or.inr ⟨e _ _ _ a, e _ _ _ b⟩
/-- a gate more, where nothing new is needed -/
theorem FS.step1 {c36 : Int32} {r60 r61 r62 : Nat → Int32} {R : List Nat} {D : Nat → Prop} (fx : FX M I O A L OU G T dp hi lo fo) (h : FS c36 r60 r61 r62 I A L (sv L ++ T) hi lo fo R D) {g : gt} (hg : g ∈ G) (kM : kn I R (lf (sv L ++ T) fo (gM g))) (km : kn I R (lf (sv L ++ T) fo (gm g))) {v : Nat} (hb : bs (pz L I R (lf (sv L ++ T) fo (gM g))) (pz L I R (lf (sv L ++ T) fo (gm g))) = Option.some v) :
    FS c36 (va_up r60 (g.1 / 2) (nI v)) r61 r62 I A L (sv L ++ T) hi lo fo R (fun z => D z ∨ z = g.1 / 2) := by
  obtain ⟨n1, n2, n3⟩ := fx.1.own hg
  rw [bs_pz fx.1.1 kM km] at hb
  cases hu : bs (lf (sv L ++ T) fo (gM g)) (lf (sv L ++ T) fo (gm g)) with
  | none => rw [hu] at hb; cases hb
  | some u =>
    rw [hu] at hb
    have ev : pz L I R u = v := Option.some.inj hb
    have ef := fx.some n1 n2 ((fx.two hg).bs.trans hu)
    have ku : kn I R u := by
      rcases bs_mem hu with q | q | q
      · rw [q]; exact kn_c (by decide)
      · rw [q]; exact kM
      · rw [q]; exact km
    rw [← ev, ← ef]
    exact h.put fx.1.2.2.2.1.1 n3 (by rw [ef]; exact ku)
theorem FS.step2 {c36 : Int32} {r60 r61 r62 : Nat → Int32} {R : List Nat} {D : Nat → Prop} (fx : FX M I O A L OU G T dp hi lo fo) (h : FS c36 r60 r61 r62 I A L (sv L ++ T) hi lo fo R D) {g : gt} (hg : g ∈ G) (kM : kn I R (lf (sv L ++ T) fo (gM g))) (km : kn I R (lf (sv L ++ T) fo (gm g))) (hb : bs (pz L I R (lf (sv L ++ T) fo (gM g))) (pz L I R (lf (sv L ++ T) fo (gm g))) = none) {p q : Nat → Nat} (hpq : ∀ k m, R[k]? = Option.some m → r61 k = nI (p k) ∧ r62 k = nI (q k) ∧ pr2 (p k) (q k) (pz L I R (fX fo hi m)) (pz L I R (fX fo lo m))) {k z : Nat}
    (hk : (k < R.length ∧ z = R.length ∧ pr2 (p k) (q k) (pz L I R (lf (sv L ++ T) fo (gM g))) (pz L I R (lf (sv L ++ T) fo (gm g)))) ∨ (k = R.length ∧ z = R.length + 1 ∧ ∀ j, j < R.length → ¬ pr2 (p j) (q j) (pz L I R (lf (sv L ++ T) fo (gM g))) (pz L I R (lf (sv L ++ T) fo (gm g))))) :
    ∃ R', FS (nI z) (va_up r60 (g.1 / 2) (nI (3000 + 2 * k))) (va_up r61 k (nI (pz L I R (lf (sv L ++ T) fo (gM g))))) (va_up r62 k (nI (pz L I R (lf (sv L ++ T) fo (gm g))))) I A L (sv L ++ T) hi lo fo R' (fun z => D z ∨ z = g.1 / 2) := by
  have w := fx.1.1
  obtain ⟨n1, n2, n3⟩ := fx.1.own hg
  have two := fx.two hg
  rw [bs_pz w kM km] at hb
  have hu : bs (lf (sv L ++ T) fo (gM g)) (lf (sv L ++ T) fo (gm g)) = none := by
    cases hu : bs (lf (sv L ++ T) fo (gM g)) (lf (sv L ++ T) fo (gm g)) with
    | none => rfl
    | some u => rw [hu] at hb; cases hb
  obtain ⟨m1, m2, m3, m4, m5⟩ := fx.nn n1 n2 (two.bs.trans hu)
  generalize fo ((sv L ++ T).idxOf (g.1 / 2)) / 2 = m at m1 m2 m3 m4 m5
  have mp := m5.tr two
  have kk : kn I R (fX fo hi m) ∧ kn I R (fX fo lo m) := by
    rcases mp with ⟨a, b⟩ | ⟨a, b⟩
    · rw [a, b]; exact ⟨kM, km⟩
    · rw [a, b]; exact ⟨km, kM⟩
  have hpm : pr2 (pz L I R (lf (sv L ++ T) fo (gM g))) (pz L I R (lf (sv L ++ T) fo (gm g))) (pz L I R (fX fo hi m)) (pz L I R (fX fo lo m)) := (pr2_pz w kM km kk.1 kk.2).mpr mp.sy
  rcases hk with ⟨hk, hz, hq⟩ | ⟨hk, hz, hq⟩
  · obtain ⟨m', hm'⟩ : ∃ m', R[k]? = Option.some m' := ⟨_, List.getElem?_eq_getElem hk⟩
    obtain ⟨⟨r1, r2, r3⟩, r4, r5⟩ := h.2.1.2 k m' hm'
    have e1 := (hpq k m' hm').2.2
    have e2 := (pr2_pz w r4.take r5.take kk.1 kk.2).mp ((e1.sy.tr hq).tr hpm)
    have em : m' = m := fx.un r1 r2 r3 m1 (by omega) m3 e2
    subst em
    obtain ⟨z1, z2⟩ := pz_root (L := L) h.2.1.1 hm' m1
    refine ⟨R, ?_⟩
    have := (h.old hm' hpm).put fx.1.2.2.2.1.1 n3 (by rw [m4]; exact z2)
    rw [m4, z1] at this
    rw [hz, ← h.1]
    exact this
  · have hno : m ∉ R := fun hm => by
      obtain ⟨j, hj, e⟩ := List.mem_iff_getElem.mp hm
      have e' : R[j]? = Option.some m := by rw [← e]; exact List.getElem?_eq_getElem hj
      exact hq j hj ((hpq j m e').2.2.tr hpm.sy)
    refine ⟨R ++ [m], ?_⟩
    have hn := h.new fx hno m1 (by omega) m3 kk.1 kk.2 hpm
    obtain ⟨z1, z2⟩ := pz_root (L := L) hn.2.1.1 (app_last (L := R) (x := m)) m1
    have := hn.put fx.1.2.2.2.1.1 n3 (by rw [m4]; exact z2)
    rw [m4, z1] at this
    rw [hz, hk]
    exact this
theorem FS.zero {r60 r61 r62 : Nat → Int32} (fx : FX M I O A L OU G T dp hi lo fo) (h0 : r60 0 = 0) (hL : ∀ (j x : Nat), L[j]? = Option.some x → r60 (x / 2) = nI x) : FS 0 r60 r61 r62 I A L (sv L ++ T) hi lo fo [] (fun _ => False) := by
  refine ⟨rfl, ⟨List.nodup_nil, fun k m hk => (by cases hk)⟩, ⟨fun _ => 0, fun _ => 0, fun k m hk => (by cases hk)⟩, fun n v hv hd => ?_⟩
  have hn : n ≤ I := hd.resolve_right id
  rw [fx.2.2.1 n hn]
  have e : 2 * n / 2 = n := by omega
  refine ⟨Or.inl (by rw [e]; exact hn), ?_⟩
  unfold pz ps
  rw [e]
  cases n with
  | zero =>
    have : v = 0 := (Option.some.inj hv).symm
    rw [this, h0]
    rfl
  | succ j =>
    have hj : j < L.length := by rw [fx.1.1.2.1.1]; omega
    rw [List.getElem?_append_left (by rw [sv_len]; omega)] at hv
    unfold sv at hv
    rw [List.getElem?_cons_succ, List.getElem?_map, getD_some (d := 0) hj] at hv
    have : v = L.getD j 0 / 2 := (Option.some.inj hv).symm
    rw [this, hL j _ (getD_some hj), if_neg (by omega), if_pos hn]
    rw [show (j + 1 - 1) = j by omega, show 2 * (j + 1) % 2 = 0 by omega]
    rfl
