-- THE REFERENCE: what is reached from seeds on
theorem NP.kd {M I O A : Nat} {L OU : List Nat} {G : List gt} {T : List Nat} {dp hi lo : Nat → Nat} (np : NP M I O A L OU G T dp hi lo) {v : Nat} : kdv L G v ≠ 0 ↔ v ∈ sv L ++ T := by
  constructor
  · intro h
    exact np.stn (stn_of (fun z => h (kdv_0.mpr z)))
  · intro h z
    obtain ⟨z0, z1, z2⟩ := kdv_0.mp z
    rcases List.mem_append.mp h with q | q
    · rcases List.mem_cons.mp q with q | q
      · exact z0 q
      · obtain ⟨x, hx, e⟩ := List.mem_map.mp q
        exact z1 x hx e
    · obtain ⟨g, hg, e⟩ := np.2.2.2.1.2.2.2.2 v q
      exact z2 g hg e
theorem f_isThere {sh : sx_S} {h : sx_H} {M I O A : Nat} {L OU : List Nat} {G : List gt} {T : List Nat} {dp hi lo : Nat → Nat} {x : Int32} {f : Int32 → sx_H → Prop} (hs : sh.1 = sx_shp) (hr : rM h M I O A L OU G) (np : NP M I O A L OU G T dp hi lo)
    (H1 : ∀ m, ith M (sv L ++ T) x m → f 1 h) (H0 : (¬ ∃ m, ith M (sv L ++ T) x m) → f 0 h) :
    sx_X sh 95 0 [some (.ref 40), some (.int x)] [] h (sx_qi f) := by
  have hM := np.1.1.1
  have s0 : (sh.1 40).1 = 11 := by rw [hs]; rfl
  refine g_95_0 h 40 x ⟨fun z => ⟨Or.inl rfl, H0 (fun ⟨m, e, hm, _⟩ => ?_)⟩, fun z => ⟨s0, ?_⟩⟩
  · rw [e] at z; exact nI_pos (by omega) z
  · obtain ⟨m, hm, rfl⟩ := nI_of z
    have un : ∀ {m' : Nat}, nI m = nI m' → m' ≤ 2 * M + 1 → m' = m := fun {m'} e h' => ((nI_eq hm (by omega)).mp e).symm
    rw [hr.1.1, two_top hM, half_nI hm]
    refine pk_lt (2 * M + 1) m (fun z1 => ⟨Or.inl rfl, H0 (fun ⟨m', e, hm', _⟩ => ?_)⟩) (fun z1 => ⟨s0, by decide, ⟨by rw [hs]; rfl, by rw [hs]; exact vp_in_nI (N := 1001) (by omega) (by decide)⟩, ?_⟩)
    · have := un e hm'; omega
    · have kl := kdv_le L G (m / 2)
      rw [nI_clamp (by omega), show h.1 (40 + 8) (m / 2) = nI (kdv L G (m / 2)) from hr.2.2.2.2 _ (by omega)]
      refine pk_le (y := 0) (kdv L G (m / 2)) 0 (fun z2 => ⟨Or.inl rfl, H0 (fun ⟨m', e, hm', hq⟩ => ?_)⟩) (fun z2 => ⟨Or.inr rfl, H1 m ⟨rfl, z1, np.kd.mp (by omega)⟩⟩)
      rw [un e hm'] at hq
      exact np.kd.mpr hq (by omega)
theorem f_isVector {sh : sx_S} {h : sx_H} {I : Nat} {x : Int32} {f : Int32 → sx_H → Prop} (hs : sh.1 = sx_shp) (hI : h.1 40 8 = nI I) (hI' : I ≤ 14) (H1 : ∀ m : Nat, x = nI m → m < 2 ^ I → f 1 h) (H0 : ¬ (0 ≤ x.toInt ∧ x.toInt < (2 ^ I : Nat)) → f 0 h) :
    sx_X sh 96 0 [some (.ref 40), some (.int x)] [] h (sx_qi f) := by
  have hp := pw14 hI'
  refine g_96_0 h 40 x ⟨fun z => ⟨Or.inl rfl, H0 (fun q => ?_)⟩, fun z => ⟨by rw [hs]; rfl, ?_⟩⟩
  · have := ix_lt.mp z
    omega
  · obtain ⟨m, hm, rfl⟩ := nI_of z
    rw [hI]
    have e : (1 : Int32) <<< (nI I &&& 31) = nI (2 ^ I) := by
      have := pk_shlN (n := 1) (nI I &&& 31) I (smd (by omega)) (by omega)
      rw [Nat.one_mul] at this
      exact this
    rw [e]
    refine pk_le (2 ^ I) m (fun z1 => ⟨Or.inl rfl, H0 (fun q => ?_)⟩) (fun z1 => ⟨Or.inr rfl, H1 m rfl z1⟩)
    rw [nI_toInt hm] at q
    omega
/-- reached from seeds on, in no step or in more -/
def rch (G : List gt) (sd : Nat → Prop) (v : Nat) : Prop := ∀ P : Nat → Prop, (∀ s, sd s → P s) → (∀ x y, P x → ed G x y → P y) → P v
theorem rch.sd {G : List gt} {sd : Nat → Prop} {v : Nat} (h : sd v) : rch G sd v := fun _ a _ => a v h
theorem rch.step {G : List gt} {sd : Nat → Prop} {x y : Nat} (h : rch G sd x) (e : ed G x y) : rch G sd y := fun P a b => b x y (h P a b) e
theorem set2s {h : sx_H} {a b : Nat} (h1 : h.1 57 a = 1) (h2 : h.1 57 b = 1) (u : Nat) : (sx_u (sx_u h.1 57 a 1) 57 b 1) 57 u = h.1 57 u := by
  rw [sx_u_eq, sx_u_eq]
  by_cases q : u = b
  · rw [q, va_up_self, h2]
  · rw [va_up_ne _ _ q]
    by_cases q1 : u = a
    · rw [q1, va_up_self, h1]
    · rw [va_up_ne _ _ q1]
theorem set2e {h : sx_H} {a b : Nat} (ha : a < 1001) (hb : b < 1001) (hB : b57 h) :
    b57 (sx_u (sx_u h.1 57 a 1) 57 b 1, h.2.1, h.2.2) ∧ z57 (sx_u (sx_u h.1 57 a 1) 57 b 1, h.2.1, h.2.2) ≤ z57 h ∧ (∀ u, (sx_u (sx_u h.1 57 a 1) 57 b 1) 57 u = 1 ↔ (h.1 57 u = 1 ∨ u = a ∨ u = b)) := by
  by_cases q : h.1 57 a = 0 ∨ h.1 57 b = 0
  · obtain ⟨x, y, z⟩ := set2 ha hb hB q
    exact ⟨x, Nat.le_of_lt y, z⟩
  · have h1 := (hB a ha).resolve_left (fun z => q (Or.inl z))
    have h2 := (hB b hb).resolve_left (fun z => q (Or.inr z))
    have e := set2s h1 h2
    refine ⟨fun u hu => ?_, cnP_le (fun u _ (z : (sx_u (sx_u h.1 57 a 1) 57 b 1) 57 u = 0) => ?_), fun u => ?_⟩
    · show (sx_u (sx_u h.1 57 a 1) 57 b 1) 57 u = 0 ∨ (sx_u (sx_u h.1 57 a 1) 57 b 1) 57 u = 1
      rw [e u]; exact hB u hu
    · rw [e u] at z; exact z
    · rw [e u]
      refine ⟨fun z => Or.inl z, fun z => ?_⟩
      rcases z with z | z | z
      · exact z
      · rw [z]; exact h1
      · rw [z]; exact h2
theorem f_reach {h : sx_H} {M I O A : Nat} {L OU : List Nat} {G : List gt} {sd : Nat → Prop} {f : Int32 → sx_H → Prop} (hr : rM h M I O A L OU G) (w : wf M I O A L OU G) (hb : b57 h) (hsd : ∀ u, sd u → u < 1001) (hs : ∀ u, u < 1001 → (h.1 57 u = 1 ↔ sd u))
    (H : ∀ h', kp r57 h h' → b57 h' → (∀ u, u < 1001 → (h'.1 57 u = 1 ↔ rch G sd u)) → f (nI (cnP (fun g : gt => rch G sd (g.1 / 2)) G)) h') :
    sx_X sx_w 100 0 [some (.ref 40), none, none, none] [] h (sx_qi f) := by
  obtain ⟨⟨wM, wI, wO, wA⟩, ⟨lL, lO, lG⟩, wL, wG, wO2⟩ := w
  have rMk : ∀ {h0 : sx_H}, kp r57 h h0 → rM h0 M I O A L OU G := fun {h0} k => hr.eq (fun j h1 h2 => k.i (by unfold r57; omega)) (fun q _ _ => congrFun (k.i (by unfold r57; omega)) q)
  have gle : ∀ g ∈ G, g.1 / 2 < 1001 ∧ gM g / 2 < 1001 ∧ gm g / 2 < 1001 ∧ g.1 < 2 ^ 31 ∧ gM g < 2 ^ 31 ∧ gm g < 2 ^ 31 := fun g hg => by
    have a := wG.1 g hg
    have b := gm_le g
    have c : gM g ≤ 2 * M + 1 := by unfold gM; omega
    omega
  have key : ∀ (N : Nat) (h0 : sx_H) (i2 : Int32) (o3 : Option Value), z57 h0 < N → kp r57 h h0 → b57 h0 → (∀ u, h0.1 57 u = 1 → u < 1001 → rch G sd u) → (∀ u, sd u → h0.1 57 u = 1) →
      sx_X sx_w 100 4 [some (.ref 40), some (.int 1), some (.int i2), o3] [] h0 (sx_qi f) := by
    intro N
    induction N with
    | zero => intro h0 i2 o3 hN; exact absurd hN (Nat.not_lt_zero _)
    | succ N ih =>
      intro h0 i2 o3 hN k0 hB0 s1 s2
      refine g_100_4 h0 40 _ _ o3 ⟨fun z => absurd z (by decide), fun _ => ?_⟩
      have inner : ∀ (rest : List gt) (k mr : Nat) (i2 : Int32) (h1 : sx_H), G.drop k = rest → k ≤ G.length → mr ≤ 1 → kp r57 h h1 → b57 h1 → z57 h1 ≤ z57 h0 → (mr = 1 → z57 h1 < z57 h0) → (∀ u, h1.1 57 u = 1 → u < 1001 → rch G sd u) → (∀ u, sd u → h1.1 57 u = 1) →
          (mr = 0 → (∀ u, h1.1 57 u = h0.1 57 u) ∧ (∃ c, i2 = nI c ∧ c + cnP (fun g : gt => h0.1 57 (g.1 / 2) = 1) rest = cnP (fun g : gt => h0.1 57 (g.1 / 2) = 1) G) ∧ ∀ j g, j < k → G[j]? = some g → h0.1 57 (g.1 / 2) = 1 → h0.1 57 (gM g / 2) = 1 ∧ h0.1 57 (gm g / 2) = 1) →
          sx_X sx_w 100 14 [some (.ref 40), some (.int (nI mr)), some (.int i2), some (.int (nI k))] [] h1 (sx_qi f) := by
        intro rest
        induction rest with
        | nil =>
          intro k mr i2 h1 hd hk hmr k1 hB1 z1 z2 t1 t2 t3
          have := dropn hd
          refine g_100_14 h1 40 _ _ _ ⟨rfl, ?_⟩
          rw [(rMk k1).1.2.2.1]
          refine pk_le A k (fun _ => ?_) (fun z => (by omega))
          by_cases q : mr = 1
          · rw [q]
            exact ih h1 _ _ (by have := z2 q; omega) k1 hB1 t1 t2
          · have q0 : mr = 0 := by omega
            rw [q0]
            obtain ⟨u1, ⟨c, u2, u3⟩, u4⟩ := t3 q0
            refine g_100_4 h1 40 _ _ _ ⟨fun _ => ?_, fun z => absurd rfl z⟩
            have iff : ∀ u, u < 1001 → (h1.1 57 u = 1 ↔ rch G sd u) := fun u hu => by
              refine ⟨fun z => t1 u z hu, fun z => ?_⟩
              refine z (fun u => h1.1 57 u = 1) t2 (fun x y px ex => ?_)
              obtain ⟨g, hg, e1, e2⟩ := ex
              obtain ⟨j, hj, rfl⟩ := List.mem_iff_getElem.mp hg
              obtain ⟨a, b⟩ := u4 j _ (by omega) (List.getElem?_eq_getElem hj) (by rw [e1, ← u1]; exact px)
              rcases e2 with e2 | e2
              · rw [← e2, u1]; exact a
              · rw [← e2, u1]; exact b
            have ec : c = cnP (fun g : gt => rch G sd (g.1 / 2)) G := by
              have : c = cnP (fun g : gt => h0.1 57 (g.1 / 2) = 1) G := u3
              rw [this]
              exact cnP_cg (fun g hg => by rw [← u1]; exact iff _ (gle g hg).1)
            show f i2 h1
            rw [u2, ec]
            exact H h1 k1 hB1 iff
        | cons g rest ihr =>
          intro k mr i2 h1 hd _ hmr k1 hB1 z1 z2 t1 t2 t3
          obtain ⟨hk, hg, hd'⟩ := dropc hd
          have hgG := List.mem_of_getElem? hg
          obtain ⟨e1, e2, e3, e4, e5, e6⟩ := gle g hgG
          obtain ⟨r1, r2, r3⟩ := (rMk k1).2.2.2.1 k g hg
          have va : vp_in (nI k) 300 := vp_in_nI (by omega) (by decide)
          have vo : vp_in (nI (g.1 / 2)) 1001 := vp_in_nI e1 (by decide)
          have vM : vp_in (nI (gM g / 2)) 1001 := vp_in_nI e2 (by decide)
          have vm : vp_in (nI (gm g / 2)) 1001 := vp_in_nI e3 (by decide)
          have b1 := hB1 _ e1
          have bM := hB1 _ e2
          have bm := hB1 _ e3
          obtain ⟨m1, m2, m3⟩ := set2e e2 e3 hB1
          have kk : kp r57 h (sx_u (sx_u h1.1 57 (gM g / 2) 1) 57 (gm g / 2) 1, h1.2.1, h1.2.2) := (k1.tr (kp_hw (S := r57) (a := 57) rfl)).tr (kp_hw (S := r57) (a := 57) rfl)
          have snd : h1.1 57 (g.1 / 2) = 1 → ∀ u, (sx_u (sx_u h1.1 57 (gM g / 2) 1) 57 (gm g / 2) 1) 57 u = 1 → u < 1001 → rch G sd u := fun ho u hu hu' => by
            rcases (m3 u).mp hu with q | q | q
            · exact t1 u q hu'
            · rw [q]; exact (t1 _ ho e1).step ⟨g, hgG, rfl, Or.inl rfl⟩
            · rw [q]; exact (t1 _ ho e1).step ⟨g, hgG, rfl, Or.inr rfl⟩
          have last : ∀ {P : Nat → gt → Prop}, (∀ j g', j < k → G[j]? = some g' → P j g') → P k g → ∀ j g', j < k + 1 → G[j]? = some g' → P j g' := fun {P} a b j g' hj hg' => by
            by_cases q : j < k
            · exact a j g' q hg'
            · have : j = k := by omega
              subst this
              rw [hg] at hg'; cases hg'
              exact b
          have mark1 : h1.1 57 (g.1 / 2) = 1 → (mr = 1 ∨ h1.1 57 (gM g / 2) = 0 ∨ h1.1 57 (gm g / 2) = 0) → ∀ i2, sx_X sx_w 100 14 [some (.ref 40), some (.int 1), some (.int i2), some (.int (nI (k + 1)))] [] (sx_u (sx_u h1.1 57 (gM g / 2) 1) 57 (gm g / 2) 1, h1.2.1, h1.2.2) (sx_qi f) := fun ho hs' i2 => by
            have hz : z57 (sx_u (sx_u h1.1 57 (gM g / 2) 1) 57 (gm g / 2) 1, h1.2.1, h1.2.2) < z57 h0 := by
              rcases hs' with q | q
              · have := z2 q; omega
              · have := (set2 e2 e3 hB1 q).2.1; omega
            exact ihr (k + 1) 1 i2 _ hd' (by omega) (Nat.le_refl _) kk m1 (Nat.le_of_lt hz) (fun _ => hz) (snd ho) (fun u hu => (m3 u).mpr (Or.inl (t2 u hu))) (fun q => absurd q (by decide))
          have mark0 : h1.1 57 (g.1 / 2) = 1 → mr = 0 → h1.1 57 (gM g / 2) = 1 → h1.1 57 (gm g / 2) = 1 → sx_X sx_w 100 14 [some (.ref 40), some (.int 0), some (.int (i2 + 1)), some (.int (nI (k + 1)))] [] (sx_u (sx_u h1.1 57 (gM g / 2) 1) 57 (gm g / 2) 1, h1.2.1, h1.2.2) (sx_qi f) := fun ho q0 hM hm => by
            obtain ⟨u1, ⟨c, u2, u3⟩, u4⟩ := t3 q0
            refine ihr (k + 1) 0 (i2 + 1) _ hd' (by omega) (by decide) kk m1 (Nat.le_trans m2 z1) (fun q => absurd q (by decide)) (snd ho) (fun u hu => (m3 u).mpr (Or.inl (t2 u hu))) (fun _ => ⟨fun u => ?_, ⟨c + 1, by rw [u2, nI_1], ?_⟩, last u4 (fun _ => ⟨by rw [← u1]; exact hM, by rw [← u1]; exact hm⟩)⟩)
            · show (sx_u (sx_u h1.1 57 (gM g / 2) 1) 57 (gm g / 2) 1) 57 u = _
              rw [set2s hM hm, u1]
            · have : cnP (fun g : gt => h0.1 57 (g.1 / 2) = 1) (g :: rest) = 1 + cnP (fun g : gt => h0.1 57 (g.1 / 2) = 1) rest := cnP_y (by rw [← u1]; exact ho)
              omega
          have skip : h1.1 57 (g.1 / 2) = 0 → sx_X sx_w 100 14 [some (.ref 40), some (.int (nI mr)), some (.int i2), some (.int (nI (k + 1)))] [] h1 (sx_qi f) := fun ho => by
            refine ihr (k + 1) mr i2 h1 hd' (by omega) hmr k1 hB1 z1 z2 t1 t2 (fun q0 => ?_)
            obtain ⟨u1, ⟨c, u2, u3⟩, u4⟩ := t3 q0
            have no : ¬ h0.1 57 (g.1 / 2) = 1 := fun z => by rw [← u1, ho] at z; exact absurd z (by decide)
            refine ⟨u1, ⟨c, u2, ?_⟩, last u4 (fun z => absurd z no)⟩
            have : cnP (fun g : gt => h0.1 57 (g.1 / 2) = 1) (g :: rest) = cnP (fun g : gt => h0.1 57 (g.1 / 2) = 1) rest := cnP_n no
            omega
          refine g_100_14 h1 40 _ _ _ ⟨rfl, ?_⟩
          rw [(rMk k1).1.2.2.1, nI_clamp (n := k) (by omega), show h1.1 (40 + 5) k = nI g.1 from r1, show h1.1 (40 + 6) k = nI (gM g) from r2, show h1.1 (40 + 7) k = nI (gm g) from r3, half_nI e4, half_nI e5, half_nI e6, nI_clamp (n := g.1 / 2) (by omega), nI_clamp (n := gM g / 2) (by omega), nI_clamp (n := gm g / 2) (by omega), sx_u_ne (a := 40 + 17) (b := 40 + 7) (by decide), show h1.1 (40 + 7) k = nI (gm g) from r3, half_nI e6, nI_clamp (n := gm g / 2) (by omega), nI_1]
          refine pk_le A k (fun z => (by omega)) (fun _ => ⟨rfl, rfl, ⟨rfl, va⟩, by decide, ⟨rfl, vo⟩, fun zo => pk_en (y := 0) mr 0 (fun y => ⟨rfl, rfl, ⟨rfl, va⟩, by decide, ⟨⟨rfl, rfl, vM⟩, Or.inr rfl⟩, rfl, rfl, ⟨rfl, va⟩, by decide, ⟨⟨rfl, rfl, vm⟩, Or.inr rfl⟩, mark1 (b1.resolve_left zo) (Or.inl (by omega)) _⟩)
            (fun y => ⟨rfl, rfl, ⟨rfl, va⟩, by decide, ⟨rfl, vM⟩, fun zM => ⟨rfl, rfl, ⟨rfl, va⟩, by decide, ⟨⟨rfl, rfl, vM⟩, Or.inr rfl⟩, rfl, rfl, ⟨rfl, va⟩, by decide, ⟨⟨rfl, rfl, vm⟩, Or.inr rfl⟩, mark1 (b1.resolve_left zo) (Or.inr (Or.inl zM)) _⟩,
              fun zM => ⟨rfl, rfl, ⟨rfl, va⟩, by decide, ⟨rfl, vm⟩, fun zm => ⟨rfl, rfl, ⟨rfl, va⟩, by decide, ⟨⟨rfl, rfl, vM⟩, Or.inr rfl⟩, rfl, rfl, ⟨rfl, va⟩, by decide, ⟨⟨rfl, rfl, vm⟩, Or.inr rfl⟩, mark0 (b1.resolve_left zo) y (bM.resolve_left zM) (bm.resolve_left zm)⟩,
                fun zm => ⟨rfl, rfl, ⟨rfl, va⟩, by decide, ⟨⟨rfl, rfl, vM⟩, Or.inr rfl⟩, rfl, rfl, ⟨rfl, va⟩, by decide, ⟨⟨rfl, rfl, vm⟩, Or.inr rfl⟩, mark1 (b1.resolve_left zo) (Or.inr (Or.inr zm)) _⟩⟩⟩), fun zo => skip zo⟩)
      exact inner G 0 0 0 h0 rfl (Nat.zero_le _) (by decide) k0 hB0 (Nat.le_refl _) (fun q => absurd q (by decide)) s1 s2 (fun _ => ⟨fun _ => rfl, ⟨0, rfl, Nat.zero_add _⟩, fun j g hj => absurd hj (Nat.not_lt_zero _)⟩)
  exact g_100_0 h 40 (key (z57 h + 1) h 0 none (Nat.lt_succ_self _) kp.rf hb (fun u hu hu' => rch.sd ((hs u hu').mp hu)) (fun u hu => (hs u (hsd u hu)).mpr hu))
theorem f_coneOf {h : sx_H} {M I O A m : Nat} {L OU : List Nat} {G : List gt} {f : Int32 → sx_H → Prop} (hr : rM h M I O A L OU G) (w : wf M I O A L OU G) (hm : m / 2 ≤ 1000)
    (H : ∀ h', kp r57 h h' → f (nI (cnP (fun g : gt => rch G (fun u => u = m / 2) (g.1 / 2)) G)) h') :
    sx_X sx_w 101 0 [some (.ref 40), some (.int (nI m)), none] [] h (sx_qi f) := by
  have rMk : ∀ {h0 : sx_H}, kp r57 h h0 → rM h0 M I O A L OU G := fun {h0} k => hr.eq (fun j h1 h2 => k.i (by unfold r57; omega)) (fun q _ _ => congrFun (k.i (by unfold r57; omega)) q)
  have clr : ∀ (e k : Nat) (h0 : sx_H), k + e = 1001 → kp r57 h h0 → (∀ u, u < k → h0.1 57 u = if u = m / 2 then 1 else 0) → sx_X sx_w 101 2 [some (.ref 40), some (.int (nI m)), some (.int (nI k))] [] h0 (sx_qi f) := by
    intro e
    induction e with
    | zero =>
      intro k h0 hk k0 hz
      refine g_101_2 h0 40 _ _ (pk_le 1001 k (fun _ => ⟨rfl, f_reach (sd := fun u => u = m / 2) (rMk k0) w (fun u hu => ?_) (fun u hu => ?_) (fun u hu => ?_) (fun h' k' _ _ => H h' (k0.tr k'))⟩) (fun z => (by omega)))
      · rw [hz u (by omega)]
        by_cases q : u = m / 2
        · rw [if_pos q]; exact Or.inr rfl
        · rw [if_neg q]; exact Or.inl rfl
      · have : u = m / 2 := hu
        omega
      · rw [hz u (by omega)]
        by_cases q : u = m / 2
        · rw [if_pos q]; exact ⟨fun _ => q, fun _ => rfl⟩
        · rw [if_neg q]; exact ⟨fun z => absurd z (by decide), fun z => absurd z q⟩
    | succ e ih =>
      intro k h0 hk k0 hz
      have vk : vp_in (nI k) 1001 := vp_in_nI (by omega) (by decide)
      have go : ∀ x : Int32, x = (if k = m / 2 then 1 else 0) → sx_X sx_w 101 2 [some (.ref 40), some (.int (nI m)), some (.int (nI (k + 1)))] [] (sx_u h0.1 57 k x, h0.2.1, h0.2.2) (sx_qi f) := fun x hx => by
        refine ih (k + 1) _ (by omega) (k0.tr (kp_hw (S := r57) (a := 57) rfl)) (fun u hu => ?_)
        show sx_u h0.1 57 k x 57 u = _
        rw [sx_u_eq]
        by_cases q : u = k
        · rw [q, va_up_self]; exact hx
        · rw [va_up_ne _ _ q]; exact hz u (by omega)
      refine g_101_2 h0 40 _ _ (pk_le 1001 k (fun z => (by omega)) (fun _ => ⟨rfl, by decide, ?_⟩))
      rw [nI_clamp (by omega), nI_1, half_nI (by omega)]
      exact pk_en k (m / 2) (fun y => ⟨⟨⟨rfl, rfl, vk⟩, Or.inl rfl⟩, go 0 (by rw [if_neg y])⟩) (fun y => ⟨⟨⟨rfl, rfl, vk⟩, Or.inr rfl⟩, go 1 (by rw [if_pos y])⟩)
  exact g_101_0 h 40 _ (clr 1001 0 h rfl kp.rf (fun u hu => absurd hu (Nat.not_lt_zero _)))
abbrev oS (OU : List Nat) (u : Nat) : Prop := ∃ x ∈ OU, x / 2 = u
theorem f_needed {h : sx_H} {M I O A : Nat} {L OU : List Nat} {G : List gt} {f : Int32 → sx_H → Prop} (hr : rM h M I O A L OU G) (w : wf M I O A L OU G)
    (H : ∀ h', kp r57 h h' → b57 h' → (∀ u, u < 1001 → (h'.1 57 u = 1 ↔ rch G (oS OU) u)) → f (nI (cnP (fun g : gt => rch G (oS OU) (g.1 / 2)) G)) h') :
    sx_X sx_w 102 0 [some (.ref 40), none] [] h (sx_qi f) := by
  have w' := w
  obtain ⟨⟨wM, wI, wO, wA⟩, ⟨lL, lO, lG⟩, wL, wG, wO2⟩ := w'
  have rMk : ∀ {h0 : sx_H}, kp r57 h h0 → rM h0 M I O A L OU G := fun {h0} k => hr.eq (fun j h1 h2 => k.i (by unfold r57; omega)) (fun q _ _ => congrFun (k.i (by unfold r57; omega)) q)
  have outs : ∀ (rest : List Nat) (k : Nat) (h0 : sx_H), OU.drop k = rest → k ≤ OU.length → kp r57 h h0 → b57 h0 → (∀ u, u < 1001 → (h0.1 57 u = 1 ↔ ∃ j x, j < k ∧ OU[j]? = some x ∧ x / 2 = u)) → sx_X sx_w 102 24 [some (.ref 40), some (.int (nI k))] [] h0 (sx_qi f) := by
    intro rest
    induction rest with
    | nil =>
      intro k h0 hd hk k0 hB hz
      have := dropn hd
      refine g_102_24 h0 40 _ ⟨rfl, ?_⟩
      rw [(rMk k0).1.2.2.2]
      refine pk_le O k (fun _ => ⟨rfl, f_reach (sd := oS OU) (rMk k0) w hB (fun u hu => ?_) (fun u hu => ?_) (fun h' k' hB' iff => H h' (k0.tr k') hB' iff)⟩) (fun z => (by omega))
      · obtain ⟨x, hx, e⟩ := hu
        have := wO2 x hx
        omega
      · rw [hz u hu]
        constructor
        · rintro ⟨j, x, hj, hx, e⟩
          exact ⟨x, List.mem_of_getElem? hx, e⟩
        · rintro ⟨x, hx, e⟩
          obtain ⟨j, hj, e'⟩ := List.mem_iff_getElem.mp hx
          exact ⟨j, x, by omega, by rw [← e']; exact List.getElem?_eq_getElem hj, e⟩
    | cons x rest ihr =>
      intro k h0 hd _ k0 hB hz
      obtain ⟨hk, hg, hd'⟩ := dropc hd
      have hx := wO2 x (List.mem_of_getElem? hg)
      refine g_102_24 h0 40 _ ⟨rfl, ?_⟩
      rw [(rMk k0).1.2.2.2, nI_clamp (n := k) (by omega), show h0.1 (40 + 4) k = nI x from (rMk k0).2.2.1 k x hg, half_nI (by omega), nI_clamp (n := x / 2) (by omega), nI_1]
      refine pk_le O k (fun z => (by omega)) (fun _ => ⟨rfl, rfl, ⟨rfl, vp_in_nI (N := 16) (by omega) (by decide)⟩, by decide, ⟨⟨rfl, rfl, vp_in_nI (N := 1001) (by omega) (by decide)⟩, Or.inr rfl⟩, ?_⟩)
      have e : ∀ u, sx_u h0.1 57 (x / 2) 1 57 u = if u = x / 2 then 1 else h0.1 57 u := fun u => by
        rw [sx_u_eq]
        by_cases q : u = x / 2
        · rw [if_pos q, q, va_up_self]
        · rw [if_neg q, va_up_ne _ _ q]
      refine ihr (k + 1) _ hd' (by omega) (k0.tr (kp_hw (S := r57) (a := 57) rfl)) (fun u hu => ?_) (fun u hu => ?_)
      · show sx_u h0.1 57 (x / 2) 1 57 u = 0 ∨ sx_u h0.1 57 (x / 2) 1 57 u = 1
        rw [e u]
        by_cases q : u = x / 2
        · rw [if_pos q]; exact Or.inr rfl
        · rw [if_neg q]; exact hB u hu
      · show sx_u h0.1 57 (x / 2) 1 57 u = 1 ↔ _
        rw [e u]
        by_cases q : u = x / 2
        · rw [if_pos q]; exact ⟨fun _ => ⟨k, x, Nat.lt_succ_self _, hg, q.symm⟩, fun _ => rfl⟩
        · rw [if_neg q, hz u hu]
          constructor
          · rintro ⟨j, y, hj, hy, e⟩
            exact ⟨j, y, by omega, hy, e⟩
          · rintro ⟨j, y, hj, hy, e⟩
            refine ⟨j, y, ?_, hy, e⟩
            rcases Nat.lt_or_ge j k with z | z
            · exact z
            · rw [show j = k by omega, hg] at hy; cases hy; exact absurd e.symm q
  have clr : ∀ (e k : Nat) (h0 : sx_H), k + e = 1001 → kp r57 h h0 → (∀ u, u < k → h0.1 57 u = 0) → sx_X sx_w 102 2 [some (.ref 40), some (.int (nI k))] [] h0 (sx_qi f) := by
    intro e
    induction e with
    | zero =>
      intro k h0 hk k0 hz
      refine g_102_2 h0 40 _ (pk_le 1001 k (fun _ => ?_) (fun z => (by omega)))
      refine outs OU 0 h0 rfl (Nat.zero_le _) k0 (fun u hu => Or.inl (hz u (by omega))) (fun u hu => ?_)
      rw [hz u (by omega)]
      exact ⟨fun z => absurd z (by decide), fun ⟨j, x, hj, _⟩ => absurd hj (Nat.not_lt_zero _)⟩
    | succ e ih =>
      intro k h0 hk k0 hz
      refine g_102_2 h0 40 _ (pk_le 1001 k (fun z => (by omega)) (fun _ => ⟨rfl, ⟨⟨rfl, rfl, vp_in_nI (N := 1001) (by omega) (by decide)⟩, Or.inl rfl⟩, ?_⟩))
      rw [nI_clamp (by omega), nI_1]
      refine ih (k + 1) _ (by omega) (k0.tr (kp_hw (S := r57) (a := 57) rfl)) (fun u hu => ?_)
      show sx_u h0.1 57 k 0 57 u = 0
      rw [sx_u_eq]
      by_cases q : u = k
      · rw [q, va_up_self]
      · rw [va_up_ne _ _ q]; exact hz u (by omega)
  exact g_102_0 h 40 (clr 1001 0 h rfl kp.rf (fun u hu => absurd hu (Nat.not_lt_zero _)))
