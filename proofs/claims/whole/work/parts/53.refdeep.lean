-- THE REFERENCE: depths and values, by passes until nothing changes
theorem f_deepen {h : sx_H} {M I O A B : Nat} {L OU : List Nat} {G : List gt} {dp : Nat → Nat} {f : sx_H → Prop} (hr : rM h M I O A L OU G) (w : wf M I O A L OU G) (hdp : ∀ g ∈ G, dp (g.1 / 2) = 1 + max (dp (gM g / 2)) (dp (gm g / 2))) (hd0 : ∀ v, (∀ g ∈ G, g.1 / 2 ≠ v) → dp v = 0) (hB : ∀ v, dp v ≤ B) (hB2 : B < 2 ^ 30)
    (H : ∀ h', kp (fun b => b = 55) h h' → (∀ v, v ≤ 1000 → h'.1 55 v = nI (dp v)) → f h') :
    sx_X sx_w 97 0 [some (.ref 40), none, none, none, none, none] [] h (sx_qv f) := by
  obtain ⟨⟨wM, wI, wO, wA⟩, ⟨lL, lO, lG⟩, wL, wG, wO2⟩ := w
  have hdG := pw_dG wG.2
  have rMk : ∀ {h0 : sx_H}, kp (fun b => b = 55) h h0 → rM h0 M I O A L OU G := fun {h0} k => hr.eq (fun j h1 h2 => k.i (by omega)) (fun q _ _ => congrFun (k.i (by omega)) q)
  have gle : ∀ g ∈ G, g.1 / 2 ≤ 1000 ∧ gM g / 2 ≤ 1000 ∧ gm g / 2 ≤ 1000 ∧ g.1 < 2 ^ 31 ∧ gM g < 2 ^ 31 ∧ gm g < 2 ^ 31 := fun g hg => by
    have a := wG.1 g hg
    have b := gm_le g
    have c : gM g ≤ 2 * M + 1 := by unfold gM; omega
    omega
  have key : ∀ (e p : Nat) (cur : Nat → Nat) (h0 : sx_H) (o2 o3 o4 o5 : Option Value), p + e = B + 1 → kp (fun b => b = 55) h h0 → (∀ v, v ≤ 1000 → h0.1 55 v = nI (cur v) ∧ cur v ≤ dp v) → (∀ v, v ≤ 1000 → dp v ≤ p → cur v = dp v) →
      sx_X sx_w 97 24 [some (.ref 40), some (.int 1), o2, o3, o4, o5] [] h0 (sx_qv f) := by
    intro e
    induction e with
    | zero =>
      intro p cur h0 o2 o3 o4 o5 hp k0 hc P1
      -- all is right already: nothing changes in this pass
      refine g_97_24 h0 40 _ o2 o3 o4 o5 ⟨fun z => absurd z (by decide), fun _ => ?_⟩
      have all : ∀ v, v ≤ 1000 → cur v = dp v := fun v hv => P1 v hv (by have := hB v; omega)
      have inner : ∀ (rest : List gt) (k : Nat) (o3 o4 o5 : Option Value), G.drop k = rest → k ≤ G.length → sx_X sx_w 97 32 [some (.ref 40), some (.int 0), some (.int (nI k)), o3, o4, o5] [] h0 (sx_qv f) := by
        intro rest
        induction rest with
        | nil =>
          intro k o3 o4 o5 hd hk
          have := dropn hd
          refine g_97_32 h0 40 _ _ o3 o4 o5 ⟨rfl, ?_⟩
          rw [(rMk k0).1.2.2.1]
          exact pk_le A k (fun _ => g_97_24 h0 40 _ _ _ _ _ ⟨fun _ => H h0 k0 (fun v hv => by rw [(hc v hv).1, all v hv]), fun z => absurd rfl z⟩) (fun z => (by omega))
        | cons g rest ihr =>
          intro k o3 o4 o5 hd _
          obtain ⟨hk, hg, hd'⟩ := dropc hd
          have hgG := List.mem_of_getElem? hg
          obtain ⟨e1, e2, e3, e4, e5, e6⟩ := gle g hgG
          obtain ⟨r1, r2, r3⟩ := (rMk k0).2.2.2.1 k g hg
          have va : vp_in (nI k) 300 := vp_in_nI (by omega) (by decide)
          have vo : vp_in (nI (g.1 / 2)) 1001 := vp_in_nI (by omega) (by decide)
          have vM : vp_in (nI (gM g / 2)) 1001 := vp_in_nI (by omega) (by decide)
          have vm : vp_in (nI (gm g / 2)) 1001 := vp_in_nI (by omega) (by decide)
          have bM := hB (gM g / 2)
          have bm := hB (gm g / 2)
          have hdo := hdp g hgG
          have bo := hB (g.1 / 2)
          refine g_97_32 h0 40 _ _ o3 o4 o5 ⟨rfl, ?_⟩
          rw [(rMk k0).1.2.2.1, nI_clamp (n := k) (by omega), show h0.1 (40 + 5) k = nI g.1 from r1, show h0.1 (40 + 6) k = nI (gM g) from r2, show h0.1 (40 + 7) k = nI (gm g) from r3, half_nI e4, half_nI e5, half_nI e6, nI_clamp (n := g.1 / 2) (by omega), nI_clamp (n := gM g / 2) (by omega), nI_clamp (n := gm g / 2) (by omega), nI_1, show h0.1 (40 + 15) (g.1 / 2) = nI (dp (g.1 / 2)) by rw [← all _ e1]; exact (hc _ e1).1, show h0.1 (40 + 15) (gM g / 2) = nI (dp (gM g / 2)) by rw [← all _ e2]; exact (hc _ e2).1, show h0.1 (40 + 15) (gm g / 2) = nI (dp (gm g / 2)) by rw [← all _ e3]; exact (hc _ e3).1, show (1 : Int32) + nI (dp (gm g / 2)) = nI (1 + dp (gm g / 2)) from nI_add 1 _, show (1 : Int32) + nI (dp (gM g / 2)) = nI (1 + dp (gM g / 2)) from nI_add 1 _]
          refine pk_le A k (fun z => (by omega)) (fun _ => ⟨rfl, rfl, ⟨rfl, va⟩, by decide, ⟨rfl, vM⟩, rfl, rfl, ⟨rfl, va⟩, by decide, ⟨rfl, vm⟩, pk_le (dp (gM g / 2)) (dp (gm g / 2)) (fun z => ⟨rfl, rfl, ⟨rfl, va⟩, by decide, ⟨rfl, vo⟩, pk_en (dp (g.1 / 2)) (1 + dp (gm g / 2)) (fun y => (by omega)) (fun y => ihr (k + 1) _ _ _ hd' (by omega))⟩) (fun z => ⟨rfl, rfl, ⟨rfl, va⟩, by decide, ⟨rfl, vo⟩, pk_en (dp (g.1 / 2)) (1 + dp (gM g / 2)) (fun y => (by omega)) (fun y => ihr (k + 1) _ _ _ hd' (by omega))⟩)⟩)
      exact inner G 0 o3 o4 o5 rfl (Nat.zero_le _)
    | succ e ih =>
      intro p cur h0 o2 o3 o4 o5 hp k0 hc P1
      refine g_97_24 h0 40 _ o2 o3 o4 o5 ⟨fun z => absurd z (by decide), fun _ => ?_⟩
      have inner : ∀ (rest : List gt) (k mr : Nat) (cur : Nat → Nat) (h1 : sx_H) (o3 o4 o5 : Option Value), G.drop k = rest → k ≤ G.length → mr ≤ 1 → kp (fun b => b = 55) h h1 → (∀ v, v ≤ 1000 → h1.1 55 v = nI (cur v) ∧ cur v ≤ dp v) → (∀ v, v ≤ 1000 → dp v ≤ p → cur v = dp v) →
          (∀ j g, j < k → G[j]? = some g → dp (g.1 / 2) ≤ p + 1 → cur (g.1 / 2) = dp (g.1 / 2)) → (mr = 0 → ∀ j g, j < k → G[j]? = some g → cur (g.1 / 2) = 1 + max (cur (gM g / 2)) (cur (gm g / 2))) →
          sx_X sx_w 97 32 [some (.ref 40), some (.int (nI mr)), some (.int (nI k)), o3, o4, o5] [] h1 (sx_qv f) := by
        intro rest
        induction rest with
        | nil =>
          intro k mr cur h1 o3 o4 o5 hd hk hmr k1 hc P1 P2 P3
          have := dropn hd
          refine g_97_32 h1 40 _ _ o3 o4 o5 ⟨rfl, ?_⟩
          rw [(rMk k1).1.2.2.1]
          refine pk_le A k (fun _ => ?_) (fun z => (by omega))
          have gate : ∀ v, 0 < dp v → ∃ (j : Nat) (g : gt), j < k ∧ G[j]? = some g ∧ g.1 / 2 = v := fun v hv => by
            have : ∃ g ∈ G, g.1 / 2 = v := Classical.byContradiction (fun q => by have := hd0 v (fun g hg e => q ⟨g, hg, e⟩); omega)
            obtain ⟨g, hg, e⟩ := this
            obtain ⟨j, hj, rfl⟩ := List.mem_iff_getElem.mp hg
            exact ⟨j, _, by omega, List.getElem?_eq_getElem hj, e⟩
          by_cases q : mr = 1
          · rw [q]
            refine ih (p + 1) cur h1 _ _ _ _ (by omega) k1 hc (fun v hv hv2 => ?_)
            by_cases y : dp v ≤ p
            · exact P1 v hv y
            · obtain ⟨j, g, a, b, c⟩ := gate v (by omega)
              have hc' : dp (g.1 / 2) = dp v := by rw [c]
              rw [← c]
              exact P2 j g a b (by omega)
          · have q0 : mr = 0 := by omega
            rw [q0]
            have all : ∀ (N v : Nat), dp v ≤ N → v ≤ 1000 → cur v = dp v := by
              intro N
              induction N with
              | zero => exact fun v h1 h2 => P1 v h2 (by omega)
              | succ N ihN =>
                intro v h1 h2
                by_cases y : dp v = 0
                · exact P1 v h2 (by omega)
                · obtain ⟨j, g, a, b, c⟩ := gate v (by omega)
                  have hgG := List.mem_of_getElem? b
                  obtain ⟨e1, e2, e3, -⟩ := gle g hgG
                  have hd2 := hdp g hgG
                  have := P3 q0 j g a b
                  rw [c] at this hd2
                  rw [this, ihN _ (by omega) e2, ihN _ (by omega) e3, hd2]
            exact g_97_24 h1 40 _ _ _ _ _ ⟨fun _ => H h1 k1 (fun v hv => by rw [(hc v hv).1, all _ v (Nat.le_refl _) hv]), fun z => absurd rfl z⟩
        | cons g rest ihr =>
          intro k mr cur h1 o3 o4 o5 hd _ hmr k1 hc P1 P2 P3
          obtain ⟨hk, hg, hd'⟩ := dropc hd
          have hgG := List.mem_of_getElem? hg
          obtain ⟨e1, e2, e3, e4, e5, e6⟩ := gle g hgG
          obtain ⟨r1, r2, r3⟩ := (rMk k1).2.2.2.1 k g hg
          have va : vp_in (nI k) 300 := vp_in_nI (by omega) (by decide)
          have vo : vp_in (nI (g.1 / 2)) 1001 := vp_in_nI (by omega) (by decide)
          have vM : vp_in (nI (gM g / 2)) 1001 := vp_in_nI (by omega) (by decide)
          have vm : vp_in (nI (gm g / 2)) 1001 := vp_in_nI (by omega) (by decide)
          have bM := hB (gM g / 2)
          have bm := hB (gm g / 2)
          have bo := hB (g.1 / 2)
          have hdo := hdp g hgG
          have cM := hc _ e2
          have cm := hc _ e3
          have co := hc _ e1
          have step : ∀ j g', j < k + 1 → G[j]? = some g' → (j < k ∧ g'.1 / 2 ≠ g.1 / 2) ∨ g' = g := fun j g' hj hg' => by
            by_cases q : g' = g
            · exact Or.inr q
            · refine Or.inl ⟨?_, fun e => q (hdG g' (List.mem_of_getElem? hg') g hgG e)⟩
              rcases Nat.lt_or_ge j k with y | y
              · exact y
              · have : j = k := by omega
                rw [this, hg] at hg'; cases hg'; exact absurd rfl q
          have skip : cur (g.1 / 2) = 1 + max (cur (gM g / 2)) (cur (gm g / 2)) → ∀ (o3 o4 o5 : Option Value), sx_X sx_w 97 32 [some (.ref 40), some (.int (nI mr)), some (.int (nI (k + 1))), o3, o4, o5] [] h1 (sx_qv f) := fun heq o3 o4 o5 => by
            refine ihr (k + 1) mr cur h1 o3 o4 o5 hd' (by omega) hmr k1 hc P1 (fun j g' hj hg' hl => ?_) (fun q j g' hj hg' => ?_)
            · rcases step j g' hj hg' with ⟨y, -⟩ | y
              · exact P2 j g' y hg' hl
              · subst y
                rw [heq, P1 _ e2 (by omega), P1 _ e3 (by omega), hdo]
            · rcases step j g' hj hg' with ⟨y, -⟩ | y
              · exact P3 q j g' y hg'
              · subst y; exact heq
          have put : cur (g.1 / 2) ≠ 1 + max (cur (gM g / 2)) (cur (gm g / 2)) → ∀ (x : Int32) (o3 o4 o5 : Option Value), x = nI (1 + max (cur (gM g / 2)) (cur (gm g / 2))) → sx_X sx_w 97 32 [some (.ref 40), some (.int 1), some (.int (nI (k + 1))), o3, o4, o5] [] (sx_u h1.1 55 (g.1 / 2) x, h1.2.1, h1.2.2) (sx_qv f) := fun hne x o3 o4 o5 ex => by
            have hlow : p < dp (g.1 / 2) := by
              refine Nat.not_le.mp (fun q => hne ?_)
              rw [P1 _ e1 q, P1 _ e2 (by omega), P1 _ e3 (by omega), hdo]
            refine ihr (k + 1) 1 (va_up cur (g.1 / 2) (1 + max (cur (gM g / 2)) (cur (gm g / 2)))) _ o3 o4 o5 hd' (by omega) (Nat.le_refl _) (k1.tr (kp_hw (S := fun b => b = 55) rfl)) (fun v hv => ?_) (fun v hv hv2 => ?_) (fun j g' hj hg' hl => ?_) (fun q => absurd q (by decide))
            · show sx_u h1.1 55 (g.1 / 2) x 55 v = _ ∧ _
              rw [sx_u_eq]
              by_cases q : v = g.1 / 2
              · rw [q, va_up_self, va_up_self]; exact ⟨ex, by omega⟩
              · rw [va_up_ne _ _ q, va_up_ne _ _ q]; exact hc v hv
            · rw [va_up_ne _ _ (show v ≠ g.1 / 2 from fun q => by rw [q] at hv2; omega)]
              exact P1 v hv hv2
            · rcases step j g' hj hg' with ⟨y, y2⟩ | y
              · rw [va_up_ne _ _ y2]; exact P2 j g' y hg' hl
              · subst y
                rw [va_up_self, P1 _ e2 (by omega), P1 _ e3 (by omega), hdo]
          refine g_97_32 h1 40 _ _ o3 o4 o5 ⟨rfl, ?_⟩
          rw [(rMk k1).1.2.2.1, nI_clamp (n := k) (by omega), show h1.1 (40 + 5) k = nI g.1 from r1, show h1.1 (40 + 6) k = nI (gM g) from r2, show h1.1 (40 + 7) k = nI (gm g) from r3, half_nI e4, half_nI e5, half_nI e6, nI_clamp (n := g.1 / 2) (by omega), nI_clamp (n := gM g / 2) (by omega), nI_clamp (n := gm g / 2) (by omega), nI_1, show h1.1 (40 + 15) (g.1 / 2) = nI (cur (g.1 / 2)) from co.1, show h1.1 (40 + 15) (gM g / 2) = nI (cur (gM g / 2)) from cM.1, show h1.1 (40 + 15) (gm g / 2) = nI (cur (gm g / 2)) from cm.1, show (1 : Int32) + nI (cur (gm g / 2)) = nI (1 + cur (gm g / 2)) from nI_add 1 _, show (1 : Int32) + nI (cur (gM g / 2)) = nI (1 + cur (gM g / 2)) from nI_add 1 _]
          refine pk_le A k (fun z => (by omega)) (fun _ => ⟨rfl, rfl, ⟨rfl, va⟩, by decide, ⟨rfl, vM⟩, rfl, rfl, ⟨rfl, va⟩, by decide, ⟨rfl, vm⟩, pk_le (cur (gM g / 2)) (cur (gm g / 2)) (fun z => ⟨rfl, rfl, ⟨rfl, va⟩, by decide, ⟨rfl, vo⟩, pk_en (cur (g.1 / 2)) (1 + cur (gm g / 2)) (fun y => ⟨rfl, rfl, ⟨rfl, va⟩, by decide, ⟨rfl, rfl, vo⟩, put (by omega) _ _ _ _ (by rw [Nat.max_eq_right z])⟩) (fun y => skip (by omega) _ _ _)⟩) (fun z => ⟨rfl, rfl, ⟨rfl, va⟩, by decide, ⟨rfl, vo⟩, pk_en (cur (g.1 / 2)) (1 + cur (gM g / 2)) (fun y => ⟨rfl, rfl, ⟨rfl, va⟩, by decide, ⟨rfl, rfl, vo⟩, put (by omega) _ _ _ _ (by rw [Nat.max_eq_left (Nat.le_of_lt z)])⟩) (fun y => skip (by omega) _ _ _)⟩)⟩)
      exact inner G 0 0 cur h0 o3 o4 o5 rfl (Nat.zero_le _) (by decide) k0 hc P1 (fun j g hj => absurd hj (Nat.not_lt_zero _)) (fun _ j g hj => absurd hj (Nat.not_lt_zero _))
  have clr : ∀ (e k : Nat) (h0 : sx_H), k + e = 1001 → kp (fun b => b = 55) h h0 → (∀ u, u < k → h0.1 55 u = 0) → sx_X sx_w 97 2 [some (.ref 40), some (.int (nI k)), none, none, none, none] [] h0 (sx_qv f) := by
    intro e
    induction e with
    | zero =>
      intro k h0 hk k0 hz
      refine g_97_2 h0 40 _ (pk_le 1001 k (fun _ => ?_) (fun z => (by omega)))
      exact key (B + 1) 0 (fun _ => 0) h0 none none none none (by omega) k0 (fun v hv => ⟨hz v (by omega), Nat.zero_le _⟩) (fun v hv hv2 => by omega)
    | succ e ih =>
      intro k h0 hk k0 hz
      refine g_97_2 h0 40 _ (pk_le 1001 k (fun z => (by omega)) (fun _ => ⟨rfl, ⟨rfl, rfl, vp_in_nI (N := 1001) (by omega) (by decide)⟩, ?_⟩))
      rw [nI_clamp (by omega), nI_1]
      refine ih (k + 1) _ (by omega) (k0.tr (kp_hw (S := fun b => b = 55) rfl)) (fun u hu => ?_)
      show sx_u h0.1 55 k 0 55 u = 0
      rw [sx_u_eq]
      by_cases q : u = k
      · rw [q, va_up_self]
      · rw [va_up_ne _ _ q]; exact hz u (by omega)
  exact g_97_0 h 40 (clr 1001 0 h rfl kp.rf (fun u hu => absurd hu (Nat.not_lt_zero _)))
