-- THE REFERENCE: the bits at an input, by passes until nothing changes
theorem nI_mul (a b : Nat) : nI a * nI b = nI (a * b) := (Int32.ofNat_mul a b).symm
theorem f_bit {sh : sx_S} {h : sx_H} {x v : Nat} {f : Int32 → sx_H → Prop} (hs : sh.1 = sx_shp) (hx : x / 2 ≤ 1000) (hv : h.1 56 (x / 2) = nI v) (H : f (nI (fl v (x % 2))) h) :
    sx_X sh 98 0 [some (.ref 40), some (.int (nI x))] [] h (sx_qi f) := by
  refine g_98_0 h 40 _ ?_
  rw [rem2_nI (by omega), half_nI (by omega), nI_clamp (by omega), show h.1 (40 + 16) (x / 2) = nI v from hv, nI_xor, xor_fl (by omega)]
  exact ⟨by rw [hs]; rfl, by decide, ⟨by rw [hs]; rfl, by rw [hs]; exact vp_in_nI (N := 1001) (by omega) (by decide)⟩, by decide, H⟩
theorem lv_mul {vl : Nat → Nat} {x y : Nat} (h1 : vl (x / 2) < 2) (h2 : vl (y / 2) < 2) : lv vl x * lv vl y < 2 := by
  have a := lv_2 h1
  have b := lv_2 h2
  have : lv vl x * lv vl y ≤ 1 * 1 := Nat.mul_le_mul (by omega) (by omega)
  omega
theorem f_works {h : sx_H} {M I O A B m : Nat} {L OU : List Nat} {G : List gt} {dp tv : Nat → Nat} {f : sx_H → Prop} (hr : rM h M I O A L OU G) (w : wf M I O A L OU G) (hdp : ∀ g ∈ G, dp (g.1 / 2) = 1 + max (dp (gM g / 2)) (dp (gm g / 2))) (hd0 : ∀ v, (∀ g ∈ G, g.1 / 2 ≠ v) → dp v = 0) (hB : ∀ v, dp v ≤ B) (hB2 : B < 2 ^ 30)
    (hm : m < 2 ^ I) (ht2 : ∀ v, tv v < 2) (htL : ∀ i x, L[i]? = some x → tv (x / 2) = m / 2 ^ i % 2) (ht0 : ∀ v, (∀ x ∈ L, x / 2 ≠ v) → (∀ g ∈ G, g.1 / 2 ≠ v) → tv v = 0) (htG : ∀ g ∈ G, tv (g.1 / 2) = lv tv (gM g) * lv tv (gm g))
    (H : ∀ h', kp (fun b => b = 56) h h' → (∀ v, v ≤ 1000 → h'.1 56 v = nI (tv v)) → f h') :
    sx_X sx_w 99 0 [some (.ref 40), some (.int (nI m)), none, none, none] [] h (sx_qv f) := by
  obtain ⟨⟨wM, wI, wO, wA⟩, ⟨lL, lO, lG⟩, wL, wG, wO2⟩ := w
  have hdG := pw_dG wG.2
  have hp14 := pw14 wI
  have rMk : ∀ {h0 : sx_H}, kp (fun b => b = 56) h h0 → rM h0 M I O A L OU G := fun {h0} k => hr.eq (fun j h1 h2 => k.i (by omega)) (fun q _ _ => congrFun (k.i (by omega)) q)
  have gle : ∀ g ∈ G, g.1 / 2 ≤ 1000 ∧ gM g / 2 ≤ 1000 ∧ gm g / 2 ≤ 1000 ∧ g.1 < 2 ^ 31 ∧ gM g < 2 ^ 31 ∧ gm g < 2 ^ 31 := fun g hg => by
    have a := wG.1 g hg
    have b := gm_le g
    have c : gM g ≤ 2 * M + 1 := by unfold gM; omega
    omega
  have lvt : ∀ {cur : Nat → Nat} {x : Nat}, cur (x / 2) = tv (x / 2) → lv cur x = lv tv x := fun {cur x} e => by unfold lv; rw [e]
  -- one gate's step: the two bits, and the place of its own
  have gateStep : ∀ (k mr : Nat) (cur : Nat → Nat) (h1 : sx_H) (o4 : Option Value) (g : gt), G[k]? = some g → k < G.length → kp (fun b => b = 56) h h1 → (∀ v, v ≤ 1000 → h1.1 56 v = nI (cur v) ∧ cur v < 2) →
      (cur (g.1 / 2) ≠ lv cur (gM g) * lv cur (gm g) → ∀ o4, sx_X sx_w 99 66 [some (.ref 40), some (.int (nI m)), some (.int 1), some (.int (nI (k + 1))), o4] [] (sx_u h1.1 56 (g.1 / 2) (nI (lv cur (gM g) * lv cur (gm g))), h1.2.1, h1.2.2) (sx_qv f)) →
      (cur (g.1 / 2) = lv cur (gM g) * lv cur (gm g) → ∀ o4, sx_X sx_w 99 66 [some (.ref 40), some (.int (nI m)), some (.int (nI mr)), some (.int (nI (k + 1))), o4] [] h1 (sx_qv f)) →
      sx_X sx_w 99 66 [some (.ref 40), some (.int (nI m)), some (.int (nI mr)), some (.int (nI k)), o4] [] h1 (sx_qv f) := by
    intro k mr cur h1 o4 g hg hk k1 hc put skip
    have hgG := List.mem_of_getElem? hg
    obtain ⟨e1, e2, e3, e4, e5, e6⟩ := gle g hgG
    obtain ⟨r1, r2, r3⟩ := (rMk k1).2.2.2.1 k g hg
    have va : vp_in (nI k) 300 := vp_in_nI (by omega) (by decide)
    have vo : vp_in (nI (g.1 / 2)) 1001 := vp_in_nI (by omega) (by decide)
    have cM := hc _ e2
    have cm := hc _ e3
    have co := hc _ e1
    have pl := lv_mul cM.2 cm.2
    refine g_99_66 h1 40 _ _ _ o4 ⟨rfl, ?_⟩
    rw [(rMk k1).1.2.2.1]
    refine pk_le A k (fun z => (by omega)) (fun _ => ⟨rfl, ⟨rfl, va⟩, rfl, ?_⟩)
    rw [nI_clamp (n := k) (by omega), show h1.1 (40 + 6) k = nI (gM g) from r2]
    refine f_bit rfl e2 cM.1 ⟨rfl, ⟨rfl, va⟩, rfl, ?_⟩
    rw [show h1.1 (40 + 7) k = nI (gm g) from r3]
    refine f_bit rfl e3 cm.1 ⟨rfl, rfl, ⟨rfl, va⟩, by decide, ?_⟩
    rw [show h1.1 (40 + 5) k = nI g.1 from r1, half_nI e4, nI_clamp (n := g.1 / 2) (by omega), nI_mul, show h1.1 (40 + 16) (g.1 / 2) = nI (cur (g.1 / 2)) from co.1, nI_1]
    exact ⟨⟨rfl, vo⟩, pk_en (cur (g.1 / 2)) (lv cur (gM g) * lv cur (gm g)) (fun y => ⟨rfl, rfl, ⟨rfl, va⟩, by decide, ⟨rfl, rfl, vo⟩, put y _⟩) (fun y => skip y _)⟩
  have key : ∀ (e p : Nat) (cur : Nat → Nat) (h0 : sx_H) (o3 o4 : Option Value), p + e = B + 1 → kp (fun b => b = 56) h h0 → (∀ v, v ≤ 1000 → h0.1 56 v = nI (cur v) ∧ cur v < 2) → (∀ v, v ≤ 1000 → dp v ≤ p → cur v = tv v) →
      sx_X sx_w 99 58 [some (.ref 40), some (.int (nI m)), some (.int 1), o3, o4] [] h0 (sx_qv f) := by
    intro e
    induction e with
    | zero =>
      intro p cur h0 o3 o4 hp k0 hc P1
      refine g_99_58 h0 40 _ _ o3 o4 ⟨fun z => absurd z (by decide), fun _ => ?_⟩
      have all : ∀ v, v ≤ 1000 → cur v = tv v := fun v hv => P1 v hv (by have := hB v; omega)
      have inner : ∀ (rest : List gt) (k : Nat) (o4 : Option Value), G.drop k = rest → k ≤ G.length → sx_X sx_w 99 66 [some (.ref 40), some (.int (nI m)), some (.int 0), some (.int (nI k)), o4] [] h0 (sx_qv f) := by
        intro rest
        induction rest with
        | nil =>
          intro k o4 hd hk
          have := dropn hd
          refine g_99_66 h0 40 _ _ _ o4 ⟨rfl, ?_⟩
          rw [(rMk k0).1.2.2.1]
          exact pk_le A k (fun _ => g_99_58 h0 40 _ _ _ _ ⟨fun _ => H h0 k0 (fun v hv => by rw [(hc v hv).1, all v hv]), fun z => absurd rfl z⟩) (fun z => (by omega))
        | cons g rest ihr =>
          intro k o4 hd _
          obtain ⟨hk, hg, hd'⟩ := dropc hd
          have hgG := List.mem_of_getElem? hg
          obtain ⟨e1, e2, e3, -⟩ := gle g hgG
          refine gateStep k 0 cur h0 o4 g hg hk k0 hc (fun z => absurd ?_ z) (fun _ o4 => ihr (k + 1) o4 hd' (by omega))
          rw [all _ e1, htG g hgG, lvt (all _ e2), lvt (all _ e3)]
      exact inner G 0 o4 rfl (Nat.zero_le _)
    | succ e ih =>
      intro p cur h0 o3 o4 hp k0 hc P1
      refine g_99_58 h0 40 _ _ o3 o4 ⟨fun z => absurd z (by decide), fun _ => ?_⟩
      have inner : ∀ (rest : List gt) (k mr : Nat) (cur : Nat → Nat) (h1 : sx_H) (o4 : Option Value), G.drop k = rest → k ≤ G.length → mr ≤ 1 → kp (fun b => b = 56) h h1 → (∀ v, v ≤ 1000 → h1.1 56 v = nI (cur v) ∧ cur v < 2) → (∀ v, v ≤ 1000 → dp v ≤ p → cur v = tv v) →
          (∀ j g, j < k → G[j]? = some g → dp (g.1 / 2) ≤ p + 1 → cur (g.1 / 2) = tv (g.1 / 2)) → (mr = 0 → ∀ j g, j < k → G[j]? = some g → cur (g.1 / 2) = lv cur (gM g) * lv cur (gm g)) →
          sx_X sx_w 99 66 [some (.ref 40), some (.int (nI m)), some (.int (nI mr)), some (.int (nI k)), o4] [] h1 (sx_qv f) := by
        intro rest
        induction rest with
        | nil =>
          intro k mr cur h1 o4 hd hk hmr k1 hc P1 P2 P3
          have := dropn hd
          refine g_99_66 h1 40 _ _ _ o4 ⟨rfl, ?_⟩
          rw [(rMk k1).1.2.2.1]
          refine pk_le A k (fun _ => ?_) (fun z => (by omega))
          have gate : ∀ v, 0 < dp v → ∃ (j : Nat) (g : gt), j < k ∧ G[j]? = some g ∧ g.1 / 2 = v := fun v hv => by
            have : ∃ g ∈ G, g.1 / 2 = v := Classical.byContradiction (fun q => by have := hd0 v (fun g hg e => q ⟨g, hg, e⟩); omega)
            obtain ⟨g, hg, e⟩ := this
            obtain ⟨j, hj, rfl⟩ := List.mem_iff_getElem.mp hg
            exact ⟨j, _, by omega, List.getElem?_eq_getElem hj, e⟩
          by_cases q : mr = 1
          · rw [q]
            refine ih (p + 1) cur h1 _ _ (by omega) k1 hc (fun v hv hv2 => ?_)
            by_cases y : dp v ≤ p
            · exact P1 v hv y
            · obtain ⟨j, g, a, b, c⟩ := gate v (by omega)
              have hc' : dp (g.1 / 2) = dp v := by rw [c]
              rw [← c]
              exact P2 j g a b (by omega)
          · have q0 : mr = 0 := by omega
            rw [q0]
            have all : ∀ (N v : Nat), dp v ≤ N → v ≤ 1000 → cur v = tv v := by
              intro N
              induction N with
              | zero => exact fun v h1 h2 => P1 v h2 (by omega)
              | succ N ihN =>
                intro v h1 h2
                by_cases y : dp v = 0
                · exact P1 v h2 (by omega)
                · obtain ⟨j, g, a, b, c⟩ := gate v (by omega)
                  have hgG := List.mem_of_getElem? b
                  obtain ⟨e1, e2, e3, -⟩ := gle g hgG
                  have hd2 := hdp g hgG
                  have t1 := P3 q0 j g a b
                  have t2 := htG g hgG
                  rw [c] at t1 hd2 t2
                  rw [t1, t2, lvt (ihN _ (by omega) e2), lvt (ihN _ (by omega) e3)]
            exact g_99_58 h1 40 _ _ _ _ ⟨fun _ => H h1 k1 (fun v hv => by rw [(hc v hv).1, all _ v (Nat.le_refl _) hv]), fun z => absurd rfl z⟩
        | cons g rest ihr =>
          intro k mr cur h1 o4 hd _ hmr k1 hc P1 P2 P3
          obtain ⟨hk, hg, hd'⟩ := dropc hd
          have hgG := List.mem_of_getElem? hg
          obtain ⟨e1, e2, e3, e4, e5, e6⟩ := gle g hgG
          have hdo := hdp g hgG
          have cM := hc _ e2
          have cm := hc _ e3
          have step : ∀ j g', j < k + 1 → G[j]? = some g' → (j < k ∧ g'.1 / 2 ≠ g.1 / 2) ∨ g' = g := fun j g' hj hg' => by
            by_cases q : g' = g
            · exact Or.inr q
            · refine Or.inl ⟨?_, fun e => q (hdG g' (List.mem_of_getElem? hg') g hgG e)⟩
              rcases Nat.lt_or_ge j k with y | y
              · exact y
              · have : j = k := by omega
                rw [this, hg] at hg'; cases hg'; exact absurd rfl q
          refine gateStep k mr cur h1 o4 g hg hk k1 hc (fun hne o4 => ?_) (fun heq o4 => ?_)
          · have hlow : p < dp (g.1 / 2) := by
              refine Nat.not_le.mp (fun q => hne ?_)
              rw [P1 _ e1 q, htG g hgG, lvt (P1 _ e2 (by omega)), lvt (P1 _ e3 (by omega))]
            refine ihr (k + 1) 1 (va_up cur (g.1 / 2) (lv cur (gM g) * lv cur (gm g))) _ o4 hd' (by omega) (Nat.le_refl _) (k1.tr (kp_hw (S := fun b => b = 56) rfl)) (fun v hv => ?_) (fun v hv hv2 => ?_) (fun j g' hj hg' hl => ?_) (fun q => absurd q (by decide))
            · show sx_u h1.1 56 (g.1 / 2) _ 56 v = _ ∧ _
              rw [sx_u_eq]
              by_cases q : v = g.1 / 2
              · rw [q, va_up_self, va_up_self]; exact ⟨rfl, lv_mul cM.2 cm.2⟩
              · rw [va_up_ne _ _ q, va_up_ne _ _ q]; exact hc v hv
            · rw [va_up_ne _ _ (show v ≠ g.1 / 2 from fun q => by rw [q] at hv2; omega)]
              exact P1 v hv hv2
            · rcases step j g' hj hg' with ⟨y, y2⟩ | y
              · rw [va_up_ne _ _ y2]; exact P2 j g' y hg' hl
              · subst y
                rw [va_up_self, htG _ hgG, lvt (P1 _ e2 (by omega)), lvt (P1 _ e3 (by omega))]
          · refine ihr (k + 1) mr cur h1 o4 hd' (by omega) hmr k1 hc P1 (fun j g' hj hg' hl => ?_) (fun q j g' hj hg' => ?_)
            · rcases step j g' hj hg' with ⟨y, -⟩ | y
              · exact P2 j g' y hg' hl
              · subst y
                rw [heq, htG _ hgG, lvt (P1 _ e2 (by omega)), lvt (P1 _ e3 (by omega))]
            · rcases step j g' hj hg' with ⟨y, -⟩ | y
              · exact P3 q j g' y hg'
              · subst y; exact heq
      exact inner G 0 0 cur h0 o4 rfl (Nat.zero_le _) (by decide) k0 hc P1 (fun j g hj => absurd hj (Nat.not_lt_zero _)) (fun _ j g hj => absurd hj (Nat.not_lt_zero _))
  have inp : ∀ (rest : List Nat) (k : Nat) (cur : Nat → Nat) (h0 : sx_H), L.drop k = rest → k ≤ L.length → kp (fun b => b = 56) h h0 → (∀ v, v ≤ 1000 → h0.1 56 v = nI (cur v) ∧ cur v < 2) → (∀ j x, j < k → L[j]? = some x → cur (x / 2) = tv (x / 2)) → (∀ v, (∀ x ∈ L, x / 2 ≠ v) → cur v = 0) →
      sx_X sx_w 99 24 [some (.ref 40), some (.int (nI m)), some (.int (nI k)), none, none] [] h0 (sx_qv f) := by
    intro rest
    induction rest with
    | nil =>
      intro k cur h0 hd hk k0 hc q1 q2
      have := dropn hd
      refine g_99_24 h0 40 _ _ ⟨rfl, ?_⟩
      rw [(rMk k0).1.2.1]
      refine pk_le I k (fun _ => ?_) (fun z => (by omega))
      refine key (B + 1) 0 cur h0 none none (by omega) k0 hc (fun v hv hv2 => ?_)
      by_cases q : ∀ x ∈ L, x / 2 ≠ v
      · rw [q2 v q, ht0 v q (fun g hg e => by have := hdp g hg; rw [e] at this; omega)]
      · obtain ⟨x, hx, ex⟩ : ∃ x ∈ L, x / 2 = v := Classical.byContradiction (fun z => q (fun x hx e => z ⟨x, hx, e⟩))
        obtain ⟨j, hj, e⟩ := List.mem_iff_getElem.mp hx
        rw [← ex]
        exact q1 j x (by omega) (by rw [← e]; exact List.getElem?_eq_getElem hj)
    | cons x rest ihr =>
      intro k cur h0 hd _ k0 hc q1 q2
      obtain ⟨hk, hg, hd'⟩ := dropc hd
      have hxL := List.mem_of_getElem? hg
      have hx := wL.1 x hxL
      have eb : nI m >>> (nI k &&& 31) &&& 1 = nI (m / 2 ^ k % 2) := by
        rw [pk_shrN (by omega) (nI k &&& 31) k (smd (by omega)), an_1 (Nat.lt_of_le_of_lt (Nat.div_le_self _ _) (by omega))]
      refine g_99_24 h0 40 _ _ ⟨rfl, ?_⟩
      rw [(rMk k0).1.2.1, nI_clamp (n := k) (by omega), show h0.1 (40 + 3) k = nI x from (rMk k0).2.1 k x hg, half_nI (by omega), nI_clamp (n := x / 2) (by omega), eb, nI_1]
      refine pk_le I k (fun z => (by omega)) (fun _ => ⟨rfl, rfl, ⟨rfl, vp_in_nI (N := 14) (by omega) (by decide)⟩, by decide, ⟨rfl, rfl, vp_in_nI (N := 1001) (by omega) (by decide)⟩, ?_⟩)
      refine ihr (k + 1) (va_up cur (x / 2) (m / 2 ^ k % 2)) _ hd' (by omega) (k0.tr (kp_hw (S := fun b => b = 56) rfl)) (fun v hv => ?_) (fun j y hj hy => ?_) (fun v hv => ?_)
      · show sx_u h0.1 56 (x / 2) _ 56 v = _ ∧ _
        rw [sx_u_eq]
        by_cases q : v = x / 2
        · rw [q, va_up_self, va_up_self]; exact ⟨rfl, Nat.mod_lt _ (by decide)⟩
        · rw [va_up_ne _ _ q, va_up_ne _ _ q]; exact hc v hv
      · by_cases q : y / 2 = x / 2
        · rw [q, va_up_self, htL k x hg]
        · rw [va_up_ne _ _ q]
          refine q1 j y ?_ hy
          rcases Nat.lt_or_ge j k with z | z
          · exact z
          · rw [show j = k by omega, hg] at hy; cases hy; exact absurd rfl q
      · rw [va_up_ne _ _ (show v ≠ x / 2 from fun q => hv x hxL q.symm)]
        exact q2 v hv
  have clr : ∀ (e k : Nat) (h0 : sx_H), k + e = 1001 → kp (fun b => b = 56) h h0 → (∀ u, u < k → h0.1 56 u = 0) → sx_X sx_w 99 2 [some (.ref 40), some (.int (nI m)), some (.int (nI k)), none, none] [] h0 (sx_qv f) := by
    intro e
    induction e with
    | zero =>
      intro k h0 hk k0 hz
      refine g_99_2 h0 40 _ _ (pk_le 1001 k (fun _ => ?_) (fun z => (by omega)))
      exact inp L 0 (fun _ => 0) h0 rfl (Nat.zero_le _) k0 (fun v hv => ⟨hz v (by omega), by decide⟩) (fun j x hj => absurd hj (Nat.not_lt_zero _)) (fun v hv => rfl)
    | succ e ih =>
      intro k h0 hk k0 hz
      refine g_99_2 h0 40 _ _ (pk_le 1001 k (fun z => (by omega)) (fun _ => ⟨rfl, ⟨rfl, rfl, vp_in_nI (N := 1001) (by omega) (by decide)⟩, ?_⟩))
      rw [nI_clamp (by omega), nI_1]
      refine ih (k + 1) _ (by omega) (k0.tr (kp_hw (S := fun b => b = 56) rfl)) (fun u hu => ?_)
      show sx_u h0.1 56 k 0 56 u = 0
      rw [sx_u_eq]
      by_cases q : u = k
      · rw [q, va_up_self]
      · rw [va_up_ne _ _ q]; exact hz u (by omega)
  exact g_99_0 h 40 _ (clr 1001 0 h rfl kp.rf (fun u hu => absurd hu (Nat.not_lt_zero _)))
