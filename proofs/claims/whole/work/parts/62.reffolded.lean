-- THE REFERENCE: folded, alike
theorem nI_subN {a b : Nat} (h : b ≤ a) : nI a - nI b = nI (a - b) := by
  obtain ⟨d, rfl⟩ : ∃ d, a = d + b := ⟨a - b, by omega⟩
  rw [← nI_add, Int32.add_sub_cancel, Nat.add_sub_cancel]
def th (h : sx_H) (c : Int32) : sx_H := (sx_u h.1 40 0 c, h.2.1, h.2.2)
theorem th_0 (h : sx_H) (c : Int32) : (th h c).1 40 0 = c := by
  show sx_u h.1 40 0 c 40 0 = c
  rw [sx_u_eq, va_up_self]
theorem th_kc (h : sx_H) (c : Int32) : kc h (th h c) := kp_hw (S := fun b => 40 ≤ b) (a := 40) (by decide)
theorem th_i (h : sx_H) (c : Int32) {b : Nat} (hb : b ≠ 40) : (th h c).1 b = h.1 b := sx_u_ne hb
theorem th_k (h : sx_H) (c : Int32) {k : Nat} (hk : k ≠ 0) : (th h c).1 40 k = h.1 40 k := by
  show sx_u h.1 40 0 c 40 k = _
  rw [sx_u_eq, va_up_ne _ _ hk]
variable {h : sx_H} {n er pl M I O A : Nat} {t : Nat → Nat} {tx L OU : List Nat} {G : List gt} {T : List Nat} {dp hi lo fo : Nat → Nat}
theorem th_IR (c : Int32) (ir : IR h n t tx er pl M I O A L OU G) : IR (th h c) n t tx er pl M I O A L OU G := by
  obtain ⟨i1, i2, i3, i4⟩ := ir
  refine ⟨?_, i2.eq (th_i h c (by decide)) (th_k h c (by decide)), ⟨by rw [th_k h c (by decide)]; exact i3.1, by rw [th_k h c (by decide)]; exact i3.2⟩, i4.eq (fun j h1 h2 => th_i h c (by omega)) (fun k h1 h2 => th_k h c (by omega))⟩
  unfold mt
  rw [th_k h c (by decide), th_i h c (by decide)]
  exact i1
theorem f_fails0 {f : Int32 → sx_H → Prop} {c : Int32} (H : f 0 (th h 0)) : sx_X sx_w 78 0 [some (.ref 40), some (.int 0), some (.int c)] [] h (sx_qi f) := g_78_0 h 40 _ _ ⟨fun _ => ⟨⟨rfl, rfl⟩, Or.inl rfl, H⟩, fun z => absurd rfl z⟩
theorem f_fails1 {f : Int32 → sx_H → Prop} {c : Int32} (H : f 1 (th h c)) : sx_X sx_w 78 0 [some (.ref 40), some (.int 1), some (.int c)] [] h (sx_qi f) := g_78_0 h 40 _ _ ⟨fun z => absurd z (by decide), fun _ => ⟨⟨rfl, rfl⟩, Or.inr rfl, H⟩⟩
/-- what a call leaves: its thrown code, and the cells -/
def PR (h h' : sx_H) (c : Int32) (n : Nat) (t : Nat → Nat) (tx : List Nat) (er pl M I O A : Nat) (L OU : List Nat) (G : List gt) : Prop := kc h h' ∧ h'.1 40 0 = c ∧ IR h' n t tx er pl M I O A L OU G
theorem th_PR (c : Int32) (ir : IR h n t tx er pl M I O A L OU G) : PR h (th h c) c n t tx er pl M I O A L OU G := ⟨th_kc h c, th_0 h c, th_IR c ir⟩
theorem kq.PR {h' : sx_H} {c : Int32} (k : kq (th h c) h') (ir : IR h n t tx er pl M I O A L OU G) : PR h h' c n t tx er pl M I O A L OU G := ⟨(th_kc h c).tr k.kc, by rw [k.2 0 (by decide)]; exact th_0 h c, k.irr (th_IR c ir)⟩
theorem f_alike {x y : Int32} {f : Int32 → sx_H → Prop} (ir : IR h n t tx er pl M I O A L OU G) (fx : FX M I O A L OU G T dp hi lo fo)
    (H1 : ∀ m m2, ith M (sv L ++ T) x m → ith M (sv L ++ T) y m2 → ∀ h', PR h h' 0 n t tx er pl M I O A L OU G → f (if lf (sv L ++ T) fo m = lf (sv L ++ T) fo m2 then 1 else if lf (sv L ++ T) fo m / 2 = lf (sv L ++ T) fo m2 / 2 then -1 else 0) h')
    (H0 : ((¬ ∃ m, ith M (sv L ++ T) x m) ∨ ¬ ∃ m, ith M (sv L ++ T) y m) → ∀ h', PR h h' 1 n t tx er pl M I O A L OU G → f 0 h') :
    sx_X sx_w 107 0 [some (.ref 40), some (.int x), some (.int y), none, none] [] h (sx_qi f) := by
  have np := fx.1
  have w := np.1
  have hM := w.1.1
  refine g_107_0 h 40 x y ⟨rfl, f_isThere rfl ir.2.2.2 np (fun m hm => ⟨fun z => absurd z (by decide), fun _ => ⟨rfl, f_isThere rfl ir.2.2.2 np (fun m2 hm2 => ⟨fun _ => ⟨rfl, f_fails0 ⟨fun _ => ⟨rfl, ?_⟩, fun z => absurd rfl z⟩⟩, fun z => absurd z (by decide)⟩) (fun hno => ⟨fun z => absurd rfl z, fun _ => ⟨rfl, f_fails1 ⟨fun z => absurd z (by decide), fun _ => H0 (Or.inr hno) _ (th_PR 1 ir)⟩⟩⟩)⟩⟩) (fun hno => ⟨fun _ => ⟨rfl, f_fails1 ⟨fun z => absurd z (by decide), fun _ => H0 (Or.inl hno) _ (th_PR 1 ir)⟩⟩, fun z => absurd rfl z⟩)⟩
  refine f_folds (th_IR 0 ir).2.2.2 fx (fun h5 R k5 fs => ⟨rfl, ?_⟩)
  obtain ⟨ex, lx, mx⟩ := hm
  obtain ⟨ey, ly, my⟩ := hm2
  have b2 : ∀ x : Nat, x % 2 < 2 := fun x => Nat.mod_lt _ (by decide)
  have at5 : ∀ u, u ∈ sv L ++ T → kn I R (fo ((sv L ++ T).idxOf u)) ∧ h5.1 60 u = nI (pz L I R (fo ((sv L ++ T).idxOf u))) := fun u hu => fs.2.2.2 _ u (ix_get hu) (Or.inr trivial)
  obtain ⟨a1, a2⟩ := at5 _ mx
  obtain ⟨c1, c2⟩ := at5 _ my
  have k1 : kn I R (lf (sv L ++ T) fo m) := by unfold kn lf; rw [fl_div (b2 _)]; exact a1
  have k2 : kn I R (lf (sv L ++ T) fo m2) := by unfold kn lf; rw [fl_div (b2 _)]; exact c1
  have hR := fs.2.1.len
  have l1 := pz_lt w (R := R) (by have := w.1; omega) (lf (sv L ++ T) fo m)
  have l2 := pz_lt w (R := R) (by have := w.1; omega) (lf (sv L ++ T) fo m2)
  rw [ex]
  refine f_foldOf rfl (by omega) a2 ⟨rfl, ?_⟩
  rw [ey]
  refine f_foldOf rfl (by omega) c2 ?_
  rw [pz_fl w (b2 _), pz_fl w (b2 _), show fl (fo ((sv L ++ T).idxOf (m / 2))) (m % 2) = lf (sv L ++ T) fo m from rfl, show fl (fo ((sv L ++ T).idxOf (m2 / 2))) (m2 % 2) = lf (sv L ++ T) fo m2 from rfl, half_nI (by omega), half_nI (by omega)]
  have H := H1 m m2 ⟨ex, lx, mx⟩ ⟨ey, ly, my⟩ h5 (k5.PR ir)
  refine pk_en (pz L I R (lf (sv L ++ T) fo m)) (pz L I R (lf (sv L ++ T) fo m2)) (fun q => ⟨by decide, by decide, pk_en (pz L I R (lf (sv L ++ T) fo m) / 2) (pz L I R (lf (sv L ++ T) fo m2) / 2) (fun q2 => ?_) (fun q2 => ?_)⟩) (fun q => ?_)
  · rw [if_neg (fun z => q ((pz_eq w k1 k2).mpr z)), if_neg (fun z => q2 ((pz_half w k1 k2).mpr z))] at H
    exact H
  · rw [if_neg (fun z => q ((pz_eq w k1 k2).mpr z)), if_pos ((pz_half w k1 k2).mp q2)] at H
    exact H
  · rw [if_pos ((pz_eq w k1 k2).mp q)] at H
    exact H
theorem f_folded {f : Int32 → sx_H → Prop} (ir : IR h n t tx er pl M I O A L OU G) (fx : FX M I O A L OU G T dp hi lo fo)
    (H : ∀ h', PR h h' 0 n t tx er pl M I O A L OU G → f (nI (cnP (fC I A hi lo fo (sv L ++ T) OU) (List.range' (I + 1) A))) h') :
    sx_X sx_w 106 0 [some (.ref 40), none, none] [] h (sx_qi f) := by
  have np := fx.1
  have w := np.1
  obtain ⟨⟨wM, wI, wO, wA⟩, ⟨lL, lO, lG⟩, wL, wG, wO2⟩ := w
  have b2 : ∀ x : Nat, x % 2 < 2 := fun x => Nat.mod_lt _ (by decide)
  refine g_106_0 h 40 ⟨⟨rfl, rfl⟩, rfl, f_folds (h := th h 0) (th_IR 0 ir).2.2.2 fx (fun h1 R k1 fs => ?_)⟩
  have hR := fs.2.1.len
  obtain ⟨p, q, hpq⟩ := fs.2.2.1
  have at1 : ∀ u, u ∈ sv L ++ T → kn I R (fo ((sv L ++ T).idxOf u)) ∧ h1.1 60 u = nI (pz L I R (fo ((sv L ++ T).idxOf u))) := fun u hu => fs.2.2.2 _ u (ix_get hu) (Or.inr trivial)
  have knl : ∀ x, x / 2 ∈ sv L ++ T → kn I R (lf (sv L ++ T) fo x) := fun x hx => by unfold kn lf; rw [fl_div (b2 _)]; exact (at1 _ hx).1
  have knO : ∀ x ∈ OU, kn I R (lf (sv L ++ T) fo x) := fun x hx => knl x (np.stn (np.2.1 x hx))
  have rgt : ∀ m ∈ R, I < m := fun m hm => by
    obtain ⟨j, hj, e⟩ := List.mem_iff_getElem.mp hm
    exact (fs.2.1.2 j m (by rw [← e]; exact List.getElem?_eq_getElem hj)).1.1
  have kqq : ∀ {h0 : sx_H}, kp (fun b => b = 63) h1 h0 → kq (th h 0) h0 := fun {h0} k => k1.tr (k.kq (fun b hb => by omega))
  have rM0 : ∀ {h0 : sx_H}, kp (fun b => b = 63) h1 h0 → rM h0 M I O A L OU G := fun {h0} k => (kqq k).rM (th_IR 0 ir).2.2.2
  have idl : ∀ y, kn I R y → 2999 < pz L I R y → (pz L I R y - 3000) / 2 < 300 := fun y ky hy => by
    have b := pz_big (L := L) (R := R) (y := y) np.1
    have hI : I < y / 2 := by
      refine Nat.not_le.mp (fun z => ?_)
      have := b.1 z
      omega
    rw [(b.2 hI).2]
    have := List.idxOf_lt_length_of_mem (ky.resolve_left (by omega))
    omega
  have eS : ∀ y, kn I R y → 2999 < pz L I R y → (nI (pz L I R y) - 3000) / 2 = nI ((pz L I R y - 3000) / 2) := fun y ky hy => by
    have := pz_lt np.1 (R := R) (by omega) y
    rw [show (3000 : Int32) = nI 3000 from rfl, nI_subN (by omega), half_nI (by omega)]
  have u63 : ∀ (h0 : sx_H) (y : Nat), 2999 < pz L I R y → sx_u h0.1 63 ((pz L I R y - 3000) / 2) 1 63 = mk1 L I R (h0.1 63) y := fun h0 y hy => by
    rw [sx_u_eq]
    unfold mk1
    rw [if_neg (by omega)]
  -- down through the table
  have down : ∀ (k c : Nat) (h0 : sx_H), k ≤ R.length → kp (fun b => b = 63) h1 h0 → MK I A hi lo fo (sv L ++ T) OU R k (h0.1 63) → c = cnP (fC I A hi lo fo (sv L ++ T) OU) (R.drop k) →
      sx_X sx_w 106 94 [some (.ref 40), some (.int (nI c)), some (.int (nI k - 1))] [] h0 (sx_qi f) := by
    intro k
    induction k with
    | zero =>
      intro c h0 hk k0 mk hc
      refine g_106_94 h0 40 _ _ ⟨fun _ => ?_, fun z => absurd (by decide) z⟩
      show f (nI c) h0
      rw [hc, List.drop_zero, ← fx.cnt fs.2.1 (fun j hj => (fs.2.2.2 j _ (List.getElem?_eq_getElem (by rw [np.len.1]; exact hj)) (Or.inr trivial)).1)]
      exact H h0 ((kqq k0).PR ir)
    | succ k ih =>
      intro c h0 hk k0 mk hc
      obtain ⟨m, hm⟩ : ∃ m, R[k]? = some m := ⟨_, List.getElem?_eq_getElem (by omega)⟩
      have hdr : R.drop k = m :: R.drop (k + 1) := by
        obtain ⟨hk', e⟩ := List.getElem?_eq_some_iff.mp hm
        rw [← e]
        exact List.drop_eq_getElem_cons hk'
      have hmk := mk.at fs.2.1 knO hm
      obtain ⟨p1, p2, p3⟩ := hpq k m hm
      obtain ⟨⟨m1, m2, m3⟩, t1, t2⟩ := fs.2.1.2 k m hm
      have e61 : h0.1 61 = h1.1 61 := k0.i (by omega)
      have e62 : h0.1 62 = h1.1 62 := k0.i (by omega)
      have hb := mk.2.2.2 k (by omega)
      have vk : vp_in (nI k) 300 := vp_in_nI (by omega) (by decide)
      have em : ∀ j : Nat, nI j + (-1) = nI j - 1 := fun j => (Int32.sub_eq_add_neg (nI j) 1).symm
      obtain ⟨u, v, hu, hv, ku, kv, hor⟩ : ∃ u v, p k = pz L I R u ∧ q k = pz L I R v ∧ kn I R u ∧ kn I R v ∧ ∀ i : Nat, (R[i]? = some (u / 2) ∨ R[i]? = some (v / 2)) ↔ (R[i]? = some (fX fo hi m / 2) ∨ R[i]? = some (fX fo lo m / 2)) := by
        rcases p3 with ⟨a, b⟩ | ⟨a, b⟩
        · exact ⟨_, _, a, b, t1.take, t2.take, fun i => Iff.rfl⟩
        · exact ⟨_, _, a, b, t2.take, t1.take, fun i => or_comm⟩
      have lu := pz_lt np.1 (R := R) (by omega) u
      have lv' := pz_lt np.1 (R := R) (by omega) v
      have next : h0.1 63 k = 1 → ∀ h' : sx_H, kp (fun b => b = 63) h1 h' → h'.1 63 = mk1 L I R (mk1 L I R (h0.1 63) u) v → sx_X sx_w 106 94 [some (.ref 40), some (.int (nI (c + 1))), some (.int (nI k - 1))] [] h' (sx_qi f) := fun h1' h' k' e' => by
        refine ih (c + 1) h' (by omega) k' ?_ ?_
        · rw [e']
          refine mk.mark fs.2.1 hm h1' (mk1_b (mk1_b mk.2.2.2)) (fun i => ?_)
          rw [mk1_iff np.1 fs.2.1.1 rgt kv, mk1_iff np.1 fs.2.1.1 rgt ku, or_assoc, hor]
        · rw [hdr, cnP_y (hmk.mp h1'), hc]
          omega
      have skip : h0.1 63 k = 0 → sx_X sx_w 106 94 [some (.ref 40), some (.int (nI c)), some (.int (nI k - 1))] [] h0 (sx_qi f) := fun h0' => by
        refine ih c h0 (by omega) k0 (mk.skip h0') ?_
        rw [hdr, cnP_n (fun z => by rw [hmk.mpr z] at h0'; exact absurd h0' (by decide))]
        exact hc
      rw [nI_pred]
      refine g_106_94 h0 40 _ _ ⟨fun z => absurd z (nI_pos (by omega)), fun _ => ⟨rfl, ⟨rfl, vk⟩, ?_⟩⟩
      rw [nI_clamp (n := k) (by omega), sx_u_ne (a := 40 + 23) (b := 40 + 22) (by decide), show h0.1 (40 + 21) k = nI (pz L I R u) from (congrFun e61 k).trans (p1.trans (by rw [hu])), show h0.1 (40 + 22) k = nI (pz L I R v) from (congrFun e62 k).trans (p2.trans (by rw [hv])), em, nI_1]
      refine ⟨fun z1 => ⟨rfl, ⟨rfl, vk⟩, pk_le (y := 2999) (pz L I R u) 2999 (fun zu => ⟨rfl, ⟨rfl, vk⟩, pk_le (y := 2999) (pz L I R v) 2999 (fun zv => ?_) (fun zv => ⟨rfl, rfl, ⟨rfl, vk⟩, by decide, ?_⟩)⟩) (fun zu => ⟨rfl, rfl, ⟨rfl, vk⟩, by decide, ?_⟩)⟩, fun z0 => skip z0⟩
      · refine next (hb.resolve_left z1) h0 k0 ?_
        unfold mk1
        rw [if_pos zv, if_pos zu]
      · rw [eS v kv zv, nI_clamp (by have := idl v kv zv; omega)]
        refine ⟨⟨⟨rfl, rfl, vp_in_nI (N := 300) (idl v kv zv) (by decide)⟩, Or.inr rfl⟩, next (hb.resolve_left z1) _ (k0.tr (kp_hw (S := fun b => b = 63) rfl)) ((u63 h0 v zv).trans ?_)⟩
        congr 1
        unfold mk1
        rw [if_pos zu]
      · rw [eS u ku zu, nI_clamp (n := (pz L I R u - 3000) / 2) (by have := idl u ku zu; omega)]
        refine ⟨⟨⟨rfl, rfl, vp_in_nI (N := 300) (idl u ku zu) (by decide)⟩, Or.inr rfl⟩, rfl, ⟨rfl, vk⟩, pk_le (y := 2999) (pz L I R v) 2999 (fun zv => ?_) (fun zv => ⟨rfl, rfl, ⟨rfl, vk⟩, by decide, ?_⟩)⟩
        · refine next (hb.resolve_left z1) _ (k0.tr (kp_hw (S := fun b => b = 63) rfl)) ((u63 h0 u zu).trans ?_)
          generalize mk1 L I R (h0.1 63) u = rr
          unfold mk1
          rw [if_pos zv]
        · rw [eS v kv zv, nI_clamp (n := (pz L I R v - 3000) / 2) (by have := idl v kv zv; omega)]
          refine ⟨⟨⟨rfl, rfl, vp_in_nI (N := 300) (idl v kv zv) (by decide)⟩, Or.inr rfl⟩, next (hb.resolve_left z1) _ ((k0.tr (kp_hw (S := fun b => b = 63) (a := 63) rfl)).tr (kp_hw (S := fun b => b = 63) (a := 63) rfl)) ?_⟩
          have e1 := u63 (sx_u h0.1 63 ((pz L I R u - 3000) / 2) 1, h0.2.1, h0.2.2) v zv
          rw [show ((sx_u h0.1 63 ((pz L I R u - 3000) / 2) 1, h0.2.1, h0.2.2) : sx_H).1 63 = mk1 L I R (h0.1 63) u from u63 h0 u zu] at e1
          exact e1
  -- the outputs
  have outs : ∀ (rest : List Nat) (k : Nat) (h0 : sx_H), OU.drop k = rest → k ≤ OU.length → kp (fun b => b = 63) h1 h0 → (∀ j : Nat, h0.1 63 j = 1 → j < 300 → ∃ x ∈ OU, R[j]? = some (lf (sv L ++ T) fo x / 2)) → (∀ (i x j : Nat), i < k → OU[i]? = some x → R[j]? = some (lf (sv L ++ T) fo x / 2) → h0.1 63 j = 1) → (∀ j, j < 300 → h0.1 63 j = 0 ∨ h0.1 63 j = 1) →
      sx_X sx_w 106 33 [some (.ref 40), some (.int (nI k)), none] [] h0 (sx_qi f) := by
    intro rest
    induction rest with
    | nil =>
      intro k h0 hd hk k0 s1 s2 s3
      have := dropn hd
      refine g_106_33 h0 40 _ ⟨rfl, ?_⟩
      rw [(rM0 k0).1.2.2.2, show h0.1 40 36 = nI R.length from (congrFun (k0.i (by omega)) 36).trans fs.1]
      refine pk_le O k (fun _ => ⟨rfl, ?_⟩) (fun z => (by omega))
      refine down R.length 0 h0 (Nat.le_refl _) k0 ⟨fun j m hj hj1 => ?_, fun x hx j hj => ?_, fun j m i hj hl => ?_, s3⟩ (by rw [List.drop_length]; rfl)
      · have hjl := (List.getElem?_eq_some_iff.mp hj).1
        obtain ⟨x, hx, e⟩ := s1 j hj1 (by omega)
        rw [hj] at e
        rw [Option.some.inj e]
        exact cn_sd ⟨x, hx, by rw [lf_fw]⟩
      · obtain ⟨i, hi, e⟩ := List.mem_iff_getElem.mp hx
        exact s2 i x j (by omega) (by rw [← e]; exact List.getElem?_eq_getElem hi) hj
      · have hjl := (List.getElem?_eq_some_iff.mp hj).1
        omega
    | cons x rest ihr =>
      intro k h0 hd _ k0 s1 s2 s3
      obtain ⟨hk, hg, hd'⟩ := dropc hd
      have hxO := List.mem_of_getElem? hg
      have hx := wO2 x hxO
      have kx := knO x hxO
      have vk : vp_in (nI k) 16 := vp_in_nI (by omega) (by decide)
      have lp := pz_lt np.1 (R := R) (by omega) (lf (sv L ++ T) fo x)
      have r60 : h0.1 60 (x / 2) = nI (pz L I R (fo ((sv L ++ T).idxOf (x / 2)))) := (congrFun (k0.i (by omega)) _).trans (at1 _ (np.stn (np.2.1 x hxO))).2
      have r4 : h0.1 (40 + 4) k = nI x := (rM0 k0).2.2.1 k x hg
      have next : ∀ h' : sx_H, kp (fun b => b = 63) h1 h' → h'.1 63 = mk1 L I R (h0.1 63) (lf (sv L ++ T) fo x) → sx_X sx_w 106 33 [some (.ref 40), some (.int (nI (k + 1))), none] [] h' (sx_qi f) := fun h' k' e' => by
        refine ihr (k + 1) h' hd' (by omega) k' (fun j hj hl => ?_) (fun i y j hi hy hj => ?_) (by rw [e']; exact mk1_b s3)
        · rw [e', mk1_iff np.1 fs.2.1.1 rgt kx] at hj
          rcases hj with hj | hj
          · exact s1 j hj hl
          · exact ⟨x, hxO, hj⟩
        · rw [e', mk1_iff np.1 fs.2.1.1 rgt kx]
          by_cases c : i = k
          · rw [c, hg] at hy
            cases hy
            exact Or.inr hj
          · exact Or.inl (s2 i y j (by omega) hy hj)
      refine g_106_33 h0 40 _ ⟨rfl, ?_⟩
      rw [(rM0 k0).1.2.2.2, nI_clamp (n := k) (by omega), r4, nI_1]
      refine pk_le O k (fun z => (by omega)) (fun _ => ⟨rfl, ⟨rfl, vk⟩, rfl, ?_⟩)
      refine f_foldOf rfl (by omega) r60 ?_
      rw [pz_fl np.1 (b2 _), show fl (fo ((sv L ++ T).idxOf (x / 2))) (x % 2) = lf (sv L ++ T) fo x from rfl]
      refine pk_le (y := 2999) (pz L I R (lf (sv L ++ T) fo x)) 2999 (fun zx => next h0 k0 ?_) (fun zx => ⟨rfl, rfl, ⟨rfl, vk⟩, rfl, ?_⟩)
      · unfold mk1
        rw [if_pos zx]
      · rw [r4]
        refine f_foldOf rfl (by omega) r60 ?_
        rw [pz_fl np.1 (b2 _), show fl (fo ((sv L ++ T).idxOf (x / 2))) (x % 2) = lf (sv L ++ T) fo x from rfl, eS _ kx zx, nI_clamp (by have := idl _ kx zx; omega)]
        exact ⟨by decide, ⟨⟨rfl, rfl, vp_in_nI (N := 300) (idl _ kx zx) (by decide)⟩, Or.inr rfl⟩, next _ (k0.tr (kp_hw (S := fun b => b = 63) rfl)) (u63 h0 _ zx)⟩
  have clr : ∀ (e k : Nat) (h0 : sx_H), k + e = 300 → kp (fun b => b = 63) h1 h0 → (∀ j, j < k → h0.1 63 j = 0) → sx_X sx_w 106 11 [some (.ref 40), some (.int (nI k)), none] [] h0 (sx_qi f) := by
    intro e
    induction e with
    | zero =>
      intro k h0 hk k0 hz
      refine g_106_11 h0 40 _ (pk_le 300 k (fun _ => ?_) (fun z => (by omega)))
      exact outs OU 0 h0 rfl (Nat.zero_le _) k0 (fun j hj hl => by rw [hz j (by omega)] at hj; exact absurd hj (by decide)) (fun i x j hi => absurd hi (Nat.not_lt_zero _)) (fun j hj => Or.inl (hz j (by omega)))
    | succ e ih =>
      intro k h0 hk k0 hz
      refine g_106_11 h0 40 _ (pk_le 300 k (fun z => (by omega)) (fun _ => ⟨rfl, ⟨⟨rfl, rfl, vp_in_nI (N := 300) (by omega) (by decide)⟩, Or.inl rfl⟩, ?_⟩))
      rw [nI_clamp (by omega), nI_1]
      refine ih (k + 1) _ (by omega) (k0.tr (kp_hw (S := fun b => b = 63) rfl)) (fun u hu => ?_)
      show sx_u h0.1 63 k 0 63 u = 0
      rw [sx_u_eq]
      by_cases c : u = k
      · rw [c, va_up_self]
      · rw [va_up_ne _ _ c]; exact hz u (by omega)
  exact clr 300 0 h1 rfl kp.rf (fun j hj => absurd hj (Nat.not_lt_zero _))
