-- THE REFERENCE: a gate that needs itself; what a text that reads well still lacks
noncomputable def z57 (h : sx_H) : Nat := cnP (fun u => h.1 57 u = 0) (List.range 1001)
def b57 (h : sx_H) : Prop := ∀ u, u < 1001 → h.1 57 u = 0 ∨ h.1 57 u = 1
def r57 : Nat → Prop := fun b => b = 57
/-- two places of row 57 set -/
theorem set2 {h : sx_H} {a b : Nat} (ha : a < 1001) (hb : b < 1001) (hB : b57 h) (h0 : h.1 57 a = 0 ∨ h.1 57 b = 0) :
    b57 (sx_u (sx_u h.1 57 a 1) 57 b 1, h.2.1, h.2.2) ∧ z57 (sx_u (sx_u h.1 57 a 1) 57 b 1, h.2.1, h.2.2) < z57 h ∧ (∀ u, (sx_u (sx_u h.1 57 a 1) 57 b 1) 57 u = 1 ↔ (h.1 57 u = 1 ∨ u = a ∨ u = b)) := by
  have e : ∀ u, (sx_u (sx_u h.1 57 a 1) 57 b 1) 57 u = if u = b then 1 else if u = a then 1 else h.1 57 u := fun u => by
    rw [sx_u_eq, sx_u_eq]
    unfold va_up
    rfl
  have e1 : ∀ u, (sx_u (sx_u h.1 57 a 1) 57 b 1) 57 u = 1 ↔ (h.1 57 u = 1 ∨ u = a ∨ u = b) := fun u => by
    rw [e u]
    by_cases q : u = b
    · rw [if_pos q]; exact ⟨fun _ => Or.inr (Or.inr q), fun _ => rfl⟩
    · rw [if_neg q]
      by_cases q1 : u = a
      · rw [if_pos q1]; exact ⟨fun _ => Or.inr (Or.inl q1), fun _ => rfl⟩
      · rw [if_neg q1]
        exact ⟨fun z => Or.inl z, fun z => z.elim id (fun z => z.elim (fun z => absurd z q1) (fun z => absurd z q))⟩
  refine ⟨fun u hu => ?_, ?_, e1⟩
  · show (sx_u (sx_u h.1 57 a 1) 57 b 1) 57 u = 0 ∨ _
    by_cases q : h.1 57 u = 1 ∨ u = a ∨ u = b
    · exact Or.inr ((e1 u).mpr q)
    · show _ ∨ (sx_u (sx_u h.1 57 a 1) 57 b 1) 57 u = 1
      rw [e u, if_neg (fun z => q (Or.inr (Or.inr z))), if_neg (fun z => q (Or.inr (Or.inl z)))]
      exact hB u hu
  · refine cnP_lt (fun u hu (z : (sx_u (sx_u h.1 57 a 1) 57 b 1) 57 u = 0) => ?_) ?_
    · rw [e u] at z
      by_cases q : u = b
      · rw [if_pos q] at z; exact absurd z (by decide)
      · rw [if_neg q] at z
        by_cases q1 : u = a
        · rw [if_pos q1] at z; exact absurd z (by decide)
        · rw [if_neg q1] at z; exact z
    · have no : ∀ u, u = a ∨ u = b → ¬ (sx_u (sx_u h.1 57 a 1) 57 b 1) 57 u = 0 := fun u hu z => by
        rw [(e1 u).mpr (Or.inr hu)] at z
        exact absurd z (by decide)
      rcases h0 with q | q
      · exact ⟨a, List.mem_range.mpr ha, q, no a (Or.inl rfl)⟩
      · exact ⟨b, List.mem_range.mpr hb, q, no b (Or.inr rfl)⟩
theorem f_isOwn {h : sx_H} {M I O A v : Nat} {L OU : List Nat} {G : List gt} {f : Int32 → sx_H → Prop} (hr : rN h M I O A L OU G) (w : wf M I O A L OU G) (hv : v ≤ 1000)
    (H1 : rp G v v → ∀ h', kp r57 h h' → f 1 h') (H0 : ¬ rp G v v → ∀ h', kp r57 h h' → f 0 h') :
    sx_X sx_w 93 0 [some (.ref 40), some (.int (nI v)), none, none, none, none] [] h (sx_qi f) := by
  obtain ⟨⟨wM, wI, wO, wA⟩, ⟨lL, lO, lG⟩, wL, wG, wO2⟩ := w
  have rNk : ∀ {h0 : sx_H}, kp r57 h h0 → rN h0 M I O A L OU G := fun {h0} k => by
    have e : ∀ j, j ≠ 57 → h0.1 j = h.1 j := fun j hj => k.i hj
    unfold rN
    rw [e 40 (by decide), e 49 (by decide), e 50 (by decide), e 51 (by decide), e 52 (by decide), e 53 (by decide), e 54 (by decide)]
    exact hr
  have gle : ∀ g ∈ G, g.1 / 2 < 1001 ∧ gM g / 2 < 1001 ∧ gm g / 2 < 1001 ∧ g.1 < 2 ^ 31 ∧ gM g < 2 ^ 31 ∧ gm g < 2 ^ 31 := fun g hg => by
    have a := wG.1 g hg
    have b := gm_le g
    have c : gM g ≤ 2 * M + 1 := by unfold gM; omega
    omega
  -- a pass, and what is left to do
  have key : ∀ (N : Nat) (bg : Nat) (h0 : sx_H) (o4 o5 : Option Value), z57 h0 < N → bg ≤ 1 → kp r57 h h0 → b57 h0 → (∀ u, h0.1 57 u = 1 → u < 1001 → rp G v u) → (bg = 1 → ∀ g ∈ G, g.1 / 2 = v → h0.1 57 (gM g / 2) = 1 ∧ h0.1 57 (gm g / 2) = 1) →
      sx_X sx_w 93 26 [some (.ref 40), some (.int (nI v)), some (.int 1), some (.int (nI bg)), o4, o5] [] h0 (sx_qi f) := by
    intro N
    induction N with
    | zero => intro bg h0 o4 o5 hN; exact absurd hN (Nat.not_lt_zero _)
    | succ N ih =>
      intro bg h0 o4 o5 hN hbg k0 hB0 s1 s2
      refine g_93_26 h0 40 _ _ _ o4 o5 ⟨fun z => absurd z (by decide), fun _ => ?_⟩
      have inner : ∀ (rest : List gt) (k : Nat) (mr : Nat) (h1 : sx_H) (o : Option Value), G.drop k = rest → k ≤ G.length → mr ≤ 1 → kp r57 h h1 → b57 h1 → z57 h1 ≤ z57 h0 → (mr = 1 → z57 h1 < z57 h0) → (∀ u, h1.1 57 u = 1 → u < 1001 → rp G v u) →
          (bg = 1 → ∀ g ∈ G, g.1 / 2 = v → h1.1 57 (gM g / 2) = 1 ∧ h1.1 57 (gm g / 2) = 1) →
          (bg = 0 → ∀ j g, j < k → G[j]? = some g → g.1 / 2 = v → h1.1 57 (gM g / 2) = 1 ∧ h1.1 57 (gm g / 2) = 1) →
          (mr = 0 → ∀ j g, j < k → G[j]? = some g → h1.1 57 (g.1 / 2) = 1 → h1.1 57 (gM g / 2) = 1 ∧ h1.1 57 (gm g / 2) = 1) →
          sx_X sx_w 93 35 [some (.ref 40), some (.int (nI v)), some (.int (nI mr)), some (.int (nI bg)), some (.int (nI k)), o] [] h1 (sx_qi f) := by
        intro rest
        induction rest with
        | nil =>
          intro k mr h1 o hd hk hmr k1 hB1 z1 z2 t1 t2 t3 t4
          have := dropn hd
          have rn := rNk k1
          refine g_93_35 h1 40 _ _ _ _ o ⟨rfl, ?_⟩
          rw [rn.1.2.2.1]
          refine pk_le A k (fun _ => ?_) (fun z => (by omega))
          have t2' : ∀ g ∈ G, g.1 / 2 = v → h1.1 57 (gM g / 2) = 1 ∧ h1.1 57 (gm g / 2) = 1 := fun g hg e => by
            by_cases q : bg = 1
            · exact t2 q g hg e
            · obtain ⟨j, hj, rfl⟩ := List.mem_iff_getElem.mp hg
              exact t3 (by omega) j _ (by omega) (List.getElem?_eq_getElem hj) e
          by_cases q : mr = 1
          · rw [q]
            exact ih 1 h1 _ _ (by have := z2 q; omega) (Nat.le_refl _) k1 hB1 t1 (fun _ => t2')
          · have q0 : mr = 0 := by omega
            rw [q0]
            refine g_93_26 h1 40 _ _ _ _ _ ⟨fun _ => ⟨rfl, ⟨rfl, vp_in_nI (N := 1001) (by omega) (by decide)⟩, ?_⟩, fun z => absurd rfl z⟩
            rw [nI_clamp (by omega)]
            have bv := hB1 v (by omega)
            refine ⟨bv, ?_⟩
            have iff : h1.1 57 v = 1 ↔ rp G v v := by
              refine ⟨fun z => t1 v z (by omega), fun z => ?_⟩
              refine z (fun u => h1.1 57 u = 1) (fun x ex => ?_) (fun x y px ex => ?_)
              · obtain ⟨g, hg, e1, e2⟩ := ex
                obtain ⟨a, b⟩ := t2' g hg e1
                rcases e2 with e2 | e2
                · rw [← e2]; exact a
                · rw [← e2]; exact b
              · obtain ⟨g, hg, e1, e2⟩ := ex
                obtain ⟨j, hj, rfl⟩ := List.mem_iff_getElem.mp hg
                obtain ⟨a, b⟩ := t4 q0 j _ (by omega) (List.getElem?_eq_getElem hj) (by rw [e1]; exact px)
                rcases e2 with e2 | e2
                · rw [← e2]; exact a
                · rw [← e2]; exact b
            by_cases y : h1.1 57 v = 1
            · show f (h1.1 57 v) h1
              rw [y]; exact H1 (iff.mp y) h1 k1
            · show f (h1.1 57 v) h1
              rw [bv.resolve_right y]; exact H0 (fun z => y (iff.mpr z)) h1 k1
        | cons g rest ihr =>
          intro k mr h1 o hd _ hmr k1 hB1 z1 z2 t1 t2 t3 t4
          obtain ⟨hk, hg, hd'⟩ := dropc hd
          have hgG := List.mem_of_getElem? hg
          obtain ⟨e1, e2, e3, e4, e5, e6⟩ := gle g hgG
          have rn := rNk k1
          obtain ⟨r1, r2, r3⟩ := rn.2.2.2.1 k g hg
          have va : vp_in (nI k) 300 := vp_in_nI (by omega) (by decide)
          have vo : vp_in (nI (g.1 / 2)) 1001 := vp_in_nI e1 (by decide)
          have vM : vp_in (nI (gM g / 2)) 1001 := vp_in_nI e2 (by decide)
          have vm : vp_in (nI (gm g / 2)) 1001 := vp_in_nI e3 (by decide)
          have skip : (h1.1 57 (g.1 / 2) = 1 ∨ (bg = 0 ∧ g.1 / 2 = v) → h1.1 57 (gM g / 2) = 1 ∧ h1.1 57 (gm g / 2) = 1) → sx_X sx_w 93 35 [some (.ref 40), some (.int (nI v)), some (.int (nI mr)), some (.int (nI bg)), some (.int (nI (k + 1))), some (.int (nI (g.1 / 2)))] [] h1 (sx_qi f) := fun hs => by
            refine ihr (k + 1) mr h1 _ hd' (by omega) hmr k1 hB1 z1 z2 t1 t2 (fun b j g' hj hg' e => ?_) (fun b j g' hj hg' e => ?_)
            · by_cases q : j < k
              · exact t3 b j g' q hg' e
              · have : j = k := by omega
                subst this
                rw [hg] at hg'; cases hg'
                exact hs (Or.inr ⟨b, e⟩)
            · by_cases q : j < k
              · exact t4 b j g' q hg' e
              · have : j = k := by omega
                subst this
                rw [hg] at hg'; cases hg'
                exact hs (Or.inl e)
          have mark : (h1.1 57 (g.1 / 2) = 1 ∨ (bg = 0 ∧ g.1 / 2 = v)) → (h1.1 57 (gM g / 2) = 0 ∨ h1.1 57 (gm g / 2) = 0) → sx_X sx_w 93 35 [some (.ref 40), some (.int (nI v)), some (.int 1), some (.int (nI bg)), some (.int (nI (k + 1))), some (.int (nI (g.1 / 2)))] [] (sx_u (sx_u h1.1 57 (gM g / 2) 1) 57 (gm g / 2) 1, h1.2.1, h1.2.2) (sx_qi f) := fun hs h0' => by
            obtain ⟨m1, m2, m3⟩ := set2 e2 e3 hB1 h0'
            have up : ∀ u, h1.1 57 u = 1 → (sx_u (sx_u h1.1 57 (gM g / 2) 1) 57 (gm g / 2) 1) 57 u = 1 := fun u hu => (m3 u).mpr (Or.inl hu)
            have two : (sx_u (sx_u h1.1 57 (gM g / 2) 1) 57 (gm g / 2) 1) 57 (gM g / 2) = 1 ∧ (sx_u (sx_u h1.1 57 (gM g / 2) 1) 57 (gm g / 2) 1) 57 (gm g / 2) = 1 := ⟨(m3 _).mpr (Or.inr (Or.inl rfl)), (m3 _).mpr (Or.inr (Or.inr rfl))⟩
            have root : ∀ x, ed G (g.1 / 2) x → rp G v x := fun x ex => by
              rcases hs with q | ⟨q1, q2⟩
              · exact (t1 _ q e1).step ex
              · rw [← q2]; exact rp.one ex
            refine ihr (k + 1) 1 _ _ hd' (by omega) (Nat.le_refl _) ((k1.tr (kp_hw (S := r57) (a := 57) rfl)).tr (kp_hw (S := r57) (a := 57) rfl)) m1 (by omega) (fun _ => by omega) (fun u hu hu' => ?_) (fun b g' hg' e => ?_) (fun b j g' hj hg' e => ?_) (fun b => absurd b (by decide))
            · rcases (m3 u).mp hu with q | q | q
              · exact t1 u q hu'
              · rw [q]; exact root _ ⟨g, hgG, rfl, Or.inl rfl⟩
              · rw [q]; exact root _ ⟨g, hgG, rfl, Or.inr rfl⟩
            · obtain ⟨a, b'⟩ := t2 b g' hg' e
              exact ⟨up _ a, up _ b'⟩
            · by_cases q : j < k
              · obtain ⟨a, b'⟩ := t3 b j g' q hg' e
                exact ⟨up _ a, up _ b'⟩
              · have : j = k := by omega
                subst this
                rw [hg] at hg'; cases hg'
                exact two
          refine g_93_35 h1 40 _ _ _ _ o ⟨rfl, ?_⟩
          rw [rn.1.2.2.1, nI_clamp (n := k) (by omega), show h1.1 (40 + 11) k = nI g.1 from r1, show h1.1 (40 + 12) k = nI (gM g) from r2, show h1.1 (40 + 13) k = nI (gm g) from r3, half_nI e4, half_nI e5, half_nI e6, nI_clamp (n := g.1 / 2) (by omega), nI_clamp (n := gM g / 2) (by omega), nI_clamp (n := gm g / 2) (by omega), sx_u_ne (a := 40 + 17) (b := 40 + 13) (by decide), show h1.1 (40 + 13) k = nI (gm g) from r3, half_nI e6, nI_clamp (n := gm g / 2) (by omega), nI_1]
          have both : (h1.1 57 (g.1 / 2) = 1 ∨ (bg = 0 ∧ g.1 / 2 = v)) → (sx_w.1 40).1 = 11 ∧ (sx_w.1 40).1 = 11 ∧ ((sx_w.1 (40 + 12)).1 = 1 ∧ vp_in (nI k) (sx_w.1 (40 + 12)).2) ∧ ¬ (2 : Int32) = 0 ∧ ((sx_w.1 (40 + 17)).1 = 3 ∧ vp_in (nI (gM g / 2)) (sx_w.1 (40 + 17)).2) ∧ (((h1.1 (40 + 17) (gM g / 2) : Int32) = 0 → True) ∧ True) := fun _ => ⟨rfl, rfl, ⟨rfl, va⟩, by decide, ⟨rfl, vM⟩, fun _ => trivial, trivial⟩
          clear both
          have b1 := hB1 _ e1
          have bM := hB1 _ e2
          have bm := hB1 _ e3
          refine pk_le A k (fun z => (by omega)) (fun _ => ⟨rfl, ⟨rfl, va⟩, by decide, rfl, ⟨rfl, vo⟩, fun zo => ⟨rfl, rfl, ⟨rfl, va⟩, by decide, ⟨rfl, vM⟩, fun zM => ⟨rfl, rfl, ⟨rfl, va⟩, by decide, ⟨⟨rfl, rfl, vM⟩, Or.inr rfl⟩, rfl, rfl, ⟨rfl, va⟩, by decide, ⟨⟨rfl, rfl, vm⟩, Or.inr rfl⟩, mark (Or.inl (b1.resolve_left zo)) (Or.inl zM)⟩, fun zM => ⟨rfl, rfl, ⟨rfl, va⟩, by decide, ⟨rfl, vm⟩, fun zm => ⟨rfl, rfl, ⟨rfl, va⟩, by decide, ⟨⟨rfl, rfl, vM⟩, Or.inr rfl⟩, rfl, rfl, ⟨rfl, va⟩, by decide, ⟨⟨rfl, rfl, vm⟩, Or.inr rfl⟩, mark (Or.inl (b1.resolve_left zo)) (Or.inr zm)⟩, fun zm => skip (fun _ => ⟨bM.resolve_left zM, bm.resolve_left zm⟩)⟩⟩, fun zo => pk_en (y := 0) bg 0 (fun zb => skip (fun q => ?_)) (fun zb => pk_eq (g.1 / 2) v (fun zv => ⟨rfl, rfl, ⟨rfl, va⟩, by decide, ⟨rfl, vM⟩, fun zM => ⟨rfl, rfl, ⟨rfl, va⟩, by decide, ⟨⟨rfl, rfl, vM⟩, Or.inr rfl⟩, rfl, rfl, ⟨rfl, va⟩, by decide, ⟨⟨rfl, rfl, vm⟩, Or.inr rfl⟩, mark (Or.inr ⟨zb, zv⟩) (Or.inl zM)⟩, fun zM => ⟨rfl, rfl, ⟨rfl, va⟩, by decide, ⟨rfl, vm⟩, fun zm => ⟨rfl, rfl, ⟨rfl, va⟩, by decide, ⟨⟨rfl, rfl, vM⟩, Or.inr rfl⟩, rfl, rfl, ⟨rfl, va⟩, by decide, ⟨⟨rfl, rfl, vm⟩, Or.inr rfl⟩, mark (Or.inr ⟨zb, zv⟩) (Or.inr zm)⟩, fun zm => skip (fun _ => ⟨bM.resolve_left zM, bm.resolve_left zm⟩)⟩⟩) (fun zv => skip (fun q => ?_)))⟩)
          · rcases q with q | q
            · rw [show h1.1 57 (g.1 / 2) = 0 from zo] at q; exact absurd q (by decide)
            · exact absurd q.1 zb
          · rcases q with q | q
            · rw [show h1.1 57 (g.1 / 2) = 0 from zo] at q; exact absurd q (by decide)
            · exact absurd q.2 zv
      exact inner G 0 0 h0 o5 rfl (Nat.zero_le _) (by decide) k0 hB0 (Nat.le_refl _) (fun q => absurd q (by decide)) s1 s2 (fun _ j g hj => absurd hj (Nat.not_lt_zero _)) (fun _ j g hj => absurd hj (Nat.not_lt_zero _))
  have clr : ∀ (e k : Nat) (h0 : sx_H), k + e = 1001 → kp r57 h h0 → (∀ u, u < k → h0.1 57 u = 0) → sx_X sx_w 93 2 [some (.ref 40), some (.int (nI v)), some (.int (nI k)), none, none, none] [] h0 (sx_qi f) := by
    intro e
    induction e with
    | zero =>
      intro k h0 hk k0 hz
      refine g_93_2 h0 40 _ _ (pk_le 1001 k (fun _ => ?_) (fun z => (by omega)))
      exact key (z57 h0 + 1) 0 h0 none none (Nat.lt_succ_self _) (by decide) k0 (fun u hu => Or.inl (hz u (by omega))) (fun u hu hu' => by rw [hz u (by omega)] at hu; exact absurd hu (by decide)) (fun q => absurd q (by decide))
    | succ e ih =>
      intro k h0 hk k0 hz
      refine g_93_2 h0 40 _ _ (pk_le 1001 k (fun z => (by omega)) (fun _ => ⟨rfl, ⟨⟨rfl, rfl, vp_in_nI (N := 1001) (by omega) (by decide)⟩, Or.inl rfl⟩, ?_⟩))
      rw [nI_clamp (by omega), nI_1]
      refine ih (k + 1) _ (by omega) (k0.tr (kp_hw (S := r57) (a := 57) rfl)) (fun u hu => ?_)
      show sx_u h0.1 57 k 0 57 u = 0
      rw [sx_u_eq]
      by_cases q : u = k
      · rw [q, va_up_self]
      · rw [va_up_ne _ _ q]; exact hz u (by omega)
  exact g_93_0 h 40 _ (clr 1001 0 h rfl kp.rf (fun u hu => absurd hu (Nat.not_lt_zero _)))
