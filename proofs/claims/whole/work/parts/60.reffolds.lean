-- THE REFERENCE folds all, by depths
variable {M I O A : Nat} {L OU : List Nat} {G : List gt} {T : List Nat} {dp hi lo fo : Nat → Nat}
abbrev FH (h : sx_H) (I A : Nat) (L S : List Nat) (hi lo fo : Nat → Nat) (R : List Nat) (D : Nat → Prop) : Prop := FS (h.1 40 36) (h.1 60) (h.1 61) (h.1 62) I A L S hi lo fo R D
/-- the gates done, in depth d up to the k-th -/
def dn (G : List gt) (dp : Nat → Nat) (d k v : Nat) : Prop := ∃ j g, G[j]? = some g ∧ g.1 / 2 = v ∧ (dp v < d ∨ (dp v = d ∧ j < k))
theorem kq_3 {h : sx_H} {j : Nat} {x y z : Int32} : kq h (sx_u (sx_u (sx_u h.1 61 j x) 62 j y) 40 36 z, h.2.1, h.2.2) :=
  ((kq_u (h := h) (a := 61) (k := j) (v := x) (Or.inl (by decide))).tr (kq_u (h := (sx_u h.1 61 j x, h.2.1, h.2.2)) (a := 62) (k := j) (v := y) (Or.inl (by decide)))).tr (kq_u (h := (sx_u (sx_u h.1 61 j x) 62 j y, h.2.1, h.2.2)) (a := 40) (k := 36) (v := z) (Or.inr ⟨rfl, by decide⟩))
theorem f_folds {h : sx_H} {f : sx_H → Prop} (hr : rM h M I O A L OU G) (fx : FX M I O A L OU G T dp hi lo fo)
    (H : ∀ h' R, kq h h' → FH h' I A L (sv L ++ T) hi lo fo R (fun _ => True) → f h') :
    sx_X sx_w 104 0 [some (.ref 40), none, none, none] [] h (sx_qv f) := by
  have np := fx.1
  have w := np.1
  obtain ⟨⟨wM, wI, wO, wA⟩, ⟨lL, lO, lG⟩, wL, wG, wO2⟩ := w
  have gle : ∀ g ∈ G, g.1 / 2 ≤ M ∧ g.1 / 2 ≤ 1000 ∧ gM g / 2 ≤ 1000 ∧ gm g / 2 ≤ 1000 ∧ g.1 < 2 ^ 31 ∧ gM g < 2 ^ 31 ∧ gm g < 2 ^ 31 := fun g hg => by
    have a := wG.1 g hg
    have b := gm_le g
    have c : gM g ≤ 2 * M + 1 := by unfold gM; omega
    omega
  refine g_104_0 h 40 ⟨rfl, f_deepen hr np.1 np.dq np.dp0 np.dpB (by decide) (fun h1 k1 hdep => ⟨⟨rfl, rfl⟩, rfl, ⟨rfl, rfl, vp_in_nI (n := 0) (N := 1001) (by decide) (by decide)⟩, ?_⟩)⟩
  rw [show Int32.toNatClampNeg 0 = 0 from rfl]
  -- the rounds by depth
  have rounds : ∀ (mo : Nat), mo ≤ 315 → (∀ u, u ≤ M → dp u ≤ mo) → ∀ (e d : Nat) (R : List Nat) (h0 : sx_H) (o3 : Option Value), d + e = mo + 1 → kq h h0 → h0.1 55 = h1.1 55 → FH h0 I A L (sv L ++ T) hi lo fo R (dn G dp d 0) →
      sx_X sx_w 104 92 [some (.ref 40), some (.int (nI mo)), some (.int (nI d)), o3] [] h0 (sx_qv f) := by
    intro mo hmo hmx e
    induction e with
    | zero =>
      intro d R h0 o3 hd k0 h55 fs
      refine g_104_92 h0 40 _ _ o3 (pk_lt mo d (fun _ => H h0 R k0 (fs.mono (fun n v hv hn _ => ?_))) (fun z => (by omega)))
      have hlt : n < I + 1 + A := by
        have := (List.getElem?_eq_some_iff.mp hv).1
        rw [np.len.1] at this
        exact this
      obtain ⟨g, hg, e1, e2⟩ := np.gate hn hlt
      rw [e2] at hv
      have ev : g.1 / 2 = v := Option.some.inj hv
      obtain ⟨j, hj, ej⟩ := List.mem_iff_getElem.mp hg
      refine ⟨j, g, by rw [← ej]; exact List.getElem?_eq_getElem hj, ev, Or.inl ?_⟩
      have := hmx v (by rw [← ev]; exact (gle g hg).1)
      omega
    | succ e ih =>
      intro d R h0 o3 hd k0 h55 fs
      refine g_104_92 h0 40 _ _ o3 (pk_lt mo d (fun z => (by omega)) (fun _ => ?_))
      have inner : ∀ (rest : List gt) (k : Nat) (R : List Nat) (h0 : sx_H), G.drop k = rest → k ≤ G.length → kq h h0 → h0.1 55 = h1.1 55 → FH h0 I A L (sv L ++ T) hi lo fo R (dn G dp d k) →
          sx_X sx_w 104 99 [some (.ref 40), some (.int (nI mo)), some (.int (nI d)), some (.int (nI k))] [] h0 (sx_qv f) := by
        intro rest
        induction rest with
        | nil =>
          intro k R h0 hd' hk k0 h55 fs
          have := dropn hd'
          refine g_104_99 h0 40 _ _ _ ⟨rfl, ?_⟩
          rw [(k0.rM hr).1.2.2.1, nI_1]
          refine pk_le A k (fun _ => ?_) (fun z => (by omega))
          refine ih (d + 1) R h0 _ (by omega) k0 h55 (fs.mono (fun n v hv hn hD => ?_))
          obtain ⟨j, g, g1, g2, g3⟩ := hD
          have := (List.getElem?_eq_some_iff.mp g1).1
          exact ⟨j, g, g1, g2, by omega⟩
        | cons g rest ihr =>
          intro k R h0 hd' _ k0 h55 fs
          obtain ⟨hk, hg, hd''⟩ := dropc hd'
          have hgG := List.mem_of_getElem? hg
          obtain ⟨e0, e1, e2, e3, e4, e5, e6⟩ := gle g hgG
          obtain ⟨r1, r2, r3⟩ := (k0.rM hr).2.2.2.1 k g hg
          have va : vp_in (nI k) 300 := vp_in_nI (by omega) (by decide)
          have vo : vp_in (nI (g.1 / 2)) 1001 := vp_in_nI (by omega) (by decide)
          have bo := np.dpB (g.1 / 2)
          have hdo := np.dq g hgG
          refine g_104_99 h0 40 _ _ _ ⟨rfl, ?_⟩
          rw [(k0.rM hr).1.2.2.1, nI_clamp (n := k) (by omega), show h0.1 (40 + 5) k = nI g.1 from r1, show h0.1 (40 + 6) k = nI (gM g) from r2, half_nI e4, nI_clamp (n := g.1 / 2) (by omega), show h0.1 (40 + 15) (g.1 / 2) = nI (dp (g.1 / 2)) from (congrFun h55 _).trans (hdep _ e1), nI_1 k]
          refine pk_le A k (fun z => (by omega)) (fun _ => ⟨rfl, rfl, ⟨rfl, va⟩, by decide, ⟨rfl, vo⟩, pk_en (dp (g.1 / 2)) d (fun y => ?_) (fun y => ⟨rfl, rfl, ⟨rfl, va⟩, by decide, rfl, ⟨rfl, va⟩, rfl, ?_⟩)⟩)
          · refine ihr (k + 1) R h0 hd'' (by omega) k0 h55 (fs.mono (fun n v hv hn hD => ?_))
            obtain ⟨j, g', g1, g2, g3⟩ := hD
            refine ⟨j, g', g1, g2, ?_⟩
            rcases g3 with g3 | ⟨g3, g4⟩
            · exact Or.inl g3
            · refine Or.inr ⟨g3, ?_⟩
              rcases Nat.lt_or_ge j k with c | c
              · exact c
              · rw [show j = k by omega, hg] at g1
                cases g1
                rw [g2] at y
                exact absurd g3 y
          · obtain ⟨a0, a1, a2, -, -⟩ := np.nds hgG
            have need : ∀ u, u ∈ sv L ++ T → dp u < d → kn I R (fo ((sv L ++ T).idxOf u)) ∧ h0.1 60 u = nI (pz L I R (fo ((sv L ++ T).idxOf u))) := fun u hu hlt => by
              refine fs.2.2.2 _ u (ix_get hu) ?_
              by_cases c : (sv L ++ T).idxOf u ≤ I
              · exact Or.inl c
              · obtain ⟨g', hg', -, c2⟩ := np.gate (n := (sv L ++ T).idxOf u) (by omega) (np.ixl hu)
                rw [ix_get hu] at c2
                obtain ⟨j, hj, ej⟩ := List.mem_iff_getElem.mp hg'
                exact Or.inr ⟨j, g', by rw [← ej]; exact List.getElem?_eq_getElem hj, (Option.some.inj c2).symm, Or.inl hlt⟩
            obtain ⟨nM, rM'⟩ := need _ a1 (by omega)
            obtain ⟨nm, rm'⟩ := need _ a2 (by omega)
            have b2 : ∀ x : Nat, x % 2 < 2 := fun x => Nat.mod_lt _ (by decide)
            have kM : kn I R (lf (sv L ++ T) fo (gM g)) := by
              unfold kn lf; rw [fl_div (b2 _)]; exact nM
            have km : kn I R (lf (sv L ++ T) fo (gm g)) := by
              unfold kn lf; rw [fl_div (b2 _)]; exact nm
            have hR := fs.2.1.len
            obtain ⟨p, q, hpq⟩ := fs.2.2.1
            refine f_foldOf rfl e2 rM' ⟨rfl, ⟨rfl, va⟩, rfl, ?_⟩
            rw [show h0.1 (40 + 7) k = nI (gm g) from r3]
            refine f_foldOf rfl e3 rm' ⟨rfl, ?_⟩
            rw [pz_fl np.1 (b2 _), pz_fl np.1 (b2 _)]
            have lastD : ∀ (R' : List Nat) (h5 : sx_H), FS (h5.1 40 36) (h5.1 60) (h5.1 61) (h5.1 62) I A L (sv L ++ T) hi lo fo R' (fun z => dn G dp d k z ∨ z = g.1 / 2) → FH h5 I A L (sv L ++ T) hi lo fo R' (dn G dp d (k + 1)) := fun R' h5 fs5 => fs5.mono (fun n v hv hn hD => by
              obtain ⟨j, g', g1, g2, g3⟩ := hD
              by_cases c : j = k
              · rw [c, hg] at g1
                cases g1
                exact Or.inr g2.symm
              · exact Or.inl ⟨j, g', g1, g2, by omega⟩)
            refine f_both (p := p) (q := q) fs.1 (fun hb hno => ?_) (by omega) (fun j hj => ?_) (pz_lt np.1 (by omega) _) (pz_lt np.1 (by omega) _) (fun v hv => ⟨⟨rfl, rfl, vo⟩, ?_⟩) (fun hb j z hz => ⟨⟨rfl, rfl, vo⟩, ?_⟩)
            · obtain ⟨R', st⟩ := fs.step2 fx hgG kM km hb hpq (k := R.length) (z := R.length + 1) (Or.inr ⟨rfl, rfl, hno⟩)
              have l := st.2.1.len
              have e := (nI_eq (by omega) (by omega)).mp st.1
              omega
            · obtain ⟨m, hm⟩ : ∃ m, R[j]? = some m := ⟨_, List.getElem?_eq_getElem hj⟩
              obtain ⟨t1, t2, t3⟩ := hpq j m hm
              have l1 := pz_lt np.1 (R := R) (by omega) (fX fo hi m)
              have l2 := pz_lt np.1 (R := R) (by omega) (fX fo lo m)
              refine ⟨t1, t2, ?_⟩
              unfold pr2 at t3
              omega
            · refine ihr (k + 1) R _ hd'' (by omega) (k0.tr (kq_u (a := 60) (Or.inl (by decide)))) ?_ (lastD R _ ?_)
              · show sx_u h0.1 60 (g.1 / 2) (nI v) 55 = _
                rw [sx_u_ne (by decide)]; exact h55
              · have st := fs.step1 fx hgG kM km hv
                show FS (sx_u h0.1 60 (g.1 / 2) (nI v) 40 36) (sx_u h0.1 60 (g.1 / 2) (nI v) 60) (sx_u h0.1 60 (g.1 / 2) (nI v) 61) (sx_u h0.1 60 (g.1 / 2) (nI v) 62) I A L (sv L ++ T) hi lo fo R _
                rw [sx_u_eq, sx_u_ne (by decide), sx_u_ne (by decide), sx_u_ne (by decide)]
                exact st
            · obtain ⟨R', st⟩ := fs.step2 fx hgG kM km hb hpq hz
              refine ihr (k + 1) R' _ hd'' (by omega) (k0.tr (kq_3.tr (kq_u (a := 60) (Or.inl (by decide))))) ?_ (lastD R' _ ?_)
              · dsimp only
                rw [sx_u_ne (a := 40 + 20) (by decide), sx_u_ne (a := 40) (by decide), sx_u_ne (a := 62) (by decide), sx_u_ne (a := 61) (by decide)]; exact h55
              · dsimp only
                rw [sx_u_eq (a := 40 + 20), sx_u_ne (a := 40 + 20) (b := 40) (by decide), sx_u_ne (a := 40 + 20) (b := 61) (by decide), sx_u_ne (a := 40 + 20) (b := 62) (by decide), sx_u_eq (a := 40), va_up_self, sx_u_ne (a := 40) (b := 40 + 20) (by decide), sx_u_ne (a := 40) (b := 61) (by decide), sx_u_ne (a := 40) (b := 62) (by decide), sx_u_eq (a := 62), sx_u_ne (a := 62) (b := 40 + 20) (by decide), sx_u_ne (a := 62) (b := 61) (by decide), sx_u_eq (a := 61), sx_u_ne (a := 61) (b := 40 + 20) (by decide), sx_u_ne (a := 61) (b := 62) (by decide)]
                exact st
      exact inner G 0 R h0 rfl (Nat.zero_le _) k0 h55 fs
  -- the greatest depth
  have most : ∀ (e v mo : Nat) (h0 : sx_H), v + e = M + 1 → mo ≤ 315 → (∀ u, u < v → dp u ≤ mo) → kq h h0 → h0.1 55 = h1.1 55 → FH h0 I A L (sv L ++ T) hi lo fo [] (fun _ => False) →
      sx_X sx_w 104 55 [some (.ref 40), some (.int (nI mo)), some (.int (nI v)), none] [] h0 (sx_qv f) := by
    intro e
    induction e with
    | zero =>
      intro v mo h0 hv hmo hmx k0 h55 fs
      refine g_104_55 h0 40 _ _ ⟨rfl, ?_⟩
      rw [(k0.rM hr).1.1]
      refine pk_lt M v (fun _ => ?_) (fun z => (by omega))
      refine rounds mo hmo (fun u hu => hmx u (by omega)) mo 1 [] h0 none (by omega) k0 h55 (fs.mono (fun n u hu hn hD => ?_))
      obtain ⟨j, g, g1, g2, g3⟩ := hD
      have := np.dq g (List.mem_of_getElem? g1)
      rw [g2] at this
      omega
    | succ e ih =>
      intro v mo h0 hv hmo hmx k0 h55 fs
      have bv := np.dpB v
      have vv : vp_in (nI v) 1001 := vp_in_nI (by omega) (by decide)
      refine g_104_55 h0 40 _ _ ⟨rfl, ?_⟩
      rw [(k0.rM hr).1.1, nI_clamp (n := v) (by omega), show h0.1 (40 + 15) v = nI (dp v) from (congrFun h55 _).trans (hdep _ (by omega)), nI_1]
      refine pk_lt M v (fun z => (by omega)) (fun _ => ⟨rfl, ⟨rfl, vv⟩, pk_le (dp v) mo (fun y => ih (v + 1) mo h0 (by omega) hmo (fun u hu => ?_) k0 h55 fs) (fun y => ⟨rfl, ⟨rfl, vv⟩, ih (v + 1) (dp v) h0 (by omega) bv (fun u hu => ?_) k0 h55 fs⟩)⟩)
      · by_cases c : u = v
        · rw [c]; exact y
        · exact hmx u (by omega)
      · by_cases c : u = v
        · rw [c]; exact Nat.le_refl _
        · exact Nat.le_trans (hmx u (by omega)) (Nat.le_of_lt y)
  -- the inputs
  have inp : ∀ (rest : List Nat) (k : Nat) (h0 : sx_H), L.drop k = rest → k ≤ L.length → kq h h0 → h0.1 55 = h1.1 55 → h0.1 40 36 = 0 → h0.1 60 0 = 0 → (∀ j x, j < k → L[j]? = some x → h0.1 60 (x / 2) = nI x) →
      sx_X sx_w 104 18 [some (.ref 40), some (.int (nI k)), none, none] [] h0 (sx_qv f) := by
    intro rest
    induction rest with
    | nil =>
      intro k h0 hd hk k0 h55 h36 h60 hz
      have := dropn hd
      refine g_104_18 h0 40 _ ⟨rfl, ?_⟩
      rw [(k0.rM hr).1.2.1]
      refine pk_le I k (fun _ => ?_) (fun z => (by omega))
      refine most (M + 1) 0 0 h0 (by omega) (by decide) (fun u hu => absurd hu (Nat.not_lt_zero _)) k0 h55 ?_
      show FS (h0.1 40 36) _ _ _ _ _ _ _ _ _ _ _ _
      rw [h36]
      exact FS.zero fx h60 (fun j x hx => hz j x (by have := (List.getElem?_eq_some_iff.mp hx).1; omega) hx)
    | cons x rest ihr =>
      intro k h0 hd _ k0 h55 h36 h60 hz
      obtain ⟨hk, hg, hd'⟩ := dropc hd
      have hxL := List.mem_of_getElem? hg
      have hx := wL.1 x hxL
      have vk : vp_in (nI k) 14 := vp_in_nI (by omega) (by decide)
      refine g_104_18 h0 40 _ ⟨rfl, ?_⟩
      rw [(k0.rM hr).1.2.1, nI_clamp (n := k) (by omega), show h0.1 (40 + 3) k = nI x from (k0.rM hr).2.1 k x hg, half_nI (by omega), nI_clamp (n := x / 2) (by omega), nI_1]
      refine pk_le I k (fun z => (by omega)) (fun _ => ⟨rfl, rfl, ⟨rfl, vk⟩, by decide, rfl, ⟨rfl, vk⟩, ⟨rfl, rfl, vp_in_nI (N := 1001) (by omega) (by decide)⟩, ?_⟩)
      refine ihr (k + 1) _ hd' (by omega) (k0.tr (kq_u (Or.inl (by decide)))) ?_ ?_ ?_ (fun j y hj hy => ?_)
      · show sx_u h0.1 60 (x / 2) (nI x) 55 = _
        rw [sx_u_ne (by decide)]; exact h55
      · show sx_u h0.1 60 (x / 2) (nI x) 40 36 = _
        rw [sx_u_ne (by decide)]; exact h36
      · show sx_u h0.1 60 (x / 2) (nI x) 60 0 = _
        rw [sx_u_eq, va_up_ne _ _ (by omega)]; exact h60
      · show sx_u h0.1 60 (x / 2) (nI x) 60 (y / 2) = _
        rw [sx_u_eq]
        by_cases c : y / 2 = x / 2
        · have hy2 := wL.1 y (List.mem_of_getElem? hy)
          rw [c, va_up_self, show y = x by omega]
        · rw [va_up_ne _ _ c]
          refine hz j y ?_ hy
          rcases Nat.lt_or_ge j k with z | z
          · exact z
          · rw [show j = k by omega, hg] at hy; cases hy; exact absurd rfl c
  refine inp L 0 _ rfl (Nat.zero_le _) ((k1.kq (fun b hb => by omega)).tr ((kq_u (a := 40) (k := 36) (Or.inr ⟨rfl, by decide⟩)).tr (kq_u (a := 60) (Or.inl (by decide))))) ?_ ?_ ?_ (fun j x hj => absurd hj (Nat.not_lt_zero _))
  · show sx_u (sx_u h1.1 40 36 0) 60 0 0 55 = _
    rw [sx_u_ne (by decide), sx_u_ne (by decide)]
  · show sx_u (sx_u h1.1 40 36 0) 60 0 0 40 36 = 0
    rw [sx_u_ne (by decide), sx_u_eq, va_up_self]
  · show sx_u (sx_u h1.1 40 36 0) 60 0 0 60 0 = 0
    rw [sx_u_eq, va_up_self]
