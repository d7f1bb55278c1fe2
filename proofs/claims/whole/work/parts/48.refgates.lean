-- THE REFERENCE READS: one gate of either kind
def rg1 (t : Nat → Nat) (n M : Nat) (L : List Nat) (G : List gt) (p : Nat) : rE ⊕ (gt × Nat) := bnd (rlE t n 5 3 p) fun r =>
    if tkL M L G (gv r.1 0) then
      if gv r.1 1 ≤ 2 * M + 1 then
        if gv r.1 2 ≤ 2 * M + 1 then .inr ((gv r.1 0, gv r.1 1, gv r.1 2), r.2)
        else .inl (6, gs r.1 2)
      else .inl (6, gs r.1 1)
    else .inl (6, gs r.1 0)
theorem rg_s {t : Nat → Nat} {n M : Nat} {L : List Nat} {c p : Nat} {G : List gt} : rg t n M L (c + 1) p G = bnd (rg1 t n M L G p) fun r => rg t n M L c r.2 (G ++ [r.1]) := by
  show bnd (rlE t n 5 3 p) _ = _
  unfold rg1
  cases rlE t n 5 3 p with
  | inl e => rfl
  | inr r =>
    rw [bnd_r, bnd_r]
    by_cases h1 : tkL M L G (gv r.1 0)
    · rw [if_pos h1, if_pos h1]
      by_cases h2 : gv r.1 1 ≤ 2 * M + 1
      · rw [if_pos h2, if_pos h2]
        by_cases h3 : gv r.1 2 ≤ 2 * M + 1
        · rw [if_pos h3, if_pos h3]; rfl
        · rw [if_neg h3, if_neg h3]; rfl
      · rw [if_neg h2, if_neg h2]; rfl
    · rw [if_neg h1, if_neg h1]; rfl
theorem rb_s {t : Nat → Nat} {n I c p : Nat} {G : List gt} : rb t n I (c + 1) p G = bnd (rb1 t n (2 * (I + 1 + G.length)) p) fun r => rb t n I c r.2 (G ++ [r.1]) := rfl
theorem r54_R : ∀ b, (51 ≤ b ∧ b ≤ 54) → rR b := fun b h => by unfold rR; omega
theorem f_gate {h : sx_H} {n p M I O A : Nat} {t : Nat → Nat} {L OU : List Nat} {G : List gt} {f : Int32 → sx_H → Prop} (hm : mt h n t) (hp : h.1 40 30 = nI p) (hpn : p ≤ n) (hr : rN h M I O A L OU G) (hM : M ≤ 1000) (hG : G.length < 300)
    (H1 : ∀ r, rg1 t n M L G p = .inr r → r.2 ≤ n → ∀ h', gq rR h h' r.2 → rN h' M I O A L OU (G ++ [r.1]) → f 0 h')
    (H0 : ∀ x, rg1 t n M L G p = .inl x → 0 < x.1 → x.1 < 2 ^ 31 → ∀ h', bR rR h h' x → f (nI x.1) h') :
    sx_X sx_w 88 0 [some (.ref 40), some (.int (nI G.length))] [] h (sx_qi f) := by
  refine g_88_0 h 40 _ ⟨rfl, f_ln (cnt := 3) (e := 5) (by decide) hm hp hpn (fun r er hq1 hq2 hv h1 g1 hn => ⟨fun _ => ?_, fun y => absurd y (by decide)⟩) (fun q eq h1 g1 => ⟨fun y => absurd rfl y, fun _ => ⟨rfl, rfl, ?_⟩⟩)⟩
  · have E : rg1 t n M L G p = if tkL M L G (gv r.1 0) then
        if gv r.1 1 ≤ 2 * M + 1 then
          if gv r.1 2 ≤ 2 * M + 1 then .inr ((gv r.1 0, gv r.1 1, gv r.1 2), r.2)
          else .inl (6, gs r.1 2)
        else .inl (6, gs r.1 1)
      else .inl (6, gs r.1 0) := by unfold rg1; rw [er, bnd_r]
    have r1 := hr.kp g1
    have v0 := hv 0 (by decide)
    have v1 := hv 1 (by decide)
    have v2 := hv 2 (by decide)
    have vp : ∀ k : Nat, k < 5 → (sx_w.1 (40 + 18)).1 = 1 ∧ vp_in (nI k) (sx_w.1 (40 + 18)).2 := fun k hk => ⟨rfl, vp_in_nI (N := 5) hk (by decide)⟩
    have vq : ∀ k : Nat, k < 5 → (sx_w.1 (40 + 19)).1 = 1 ∧ vp_in (nI k) (sx_w.1 (40 + 19)).2 := fun k hk => ⟨rfl, vp_in_nI (N := 5) hk (by decide)⟩
    have s0 : h1.1 (40 + 18) (Int32.toNatClampNeg 0) = nI (gv r.1 0) := (hn 0 (by decide)).1
    have s1' : h1.1 (40 + 18) (Int32.toNatClampNeg 1) = nI (gv r.1 1) := (hn 1 (by decide)).1
    have s2 : h1.1 (40 + 18) (Int32.toNatClampNeg 2) = nI (gv r.1 2) := (hn 2 (by decide)).1
    have b0 : h1.1 (40 + 19) (Int32.toNatClampNeg 0) = nI (gs r.1 0) := (hn 0 (by decide)).2
    have b1 : h1.1 (40 + 19) (Int32.toNatClampNeg 1) = nI (gs r.1 1) := (hn 1 (by decide)).2
    have b2 : h1.1 (40 + 19) (Int32.toNatClampNeg 2) = nI (gs r.1 2) := (hn 2 (by decide)).2
    have bd : ∀ x : rE, rg1 t n M L G p = .inl x → x.1 = 6 → sx_X sx_w 81 0 [some (.ref 40), some (.int (nI x.1)), some (.int (nI x.2))] [] h1 (sx_qi fun x11 h10 => sx_qi f (some (.int x11)) h10) := fun x ex e6 => f_tl (fun h2 b2 => H0 x ex (by omega) (by omega) h2 ((g1.mo rLn_R).bad (b2.mo r40_R)))
    refine ⟨rfl, vp 0 (by decide), rfl, ?_⟩
    rw [s0]
    refine f_mayBegin rfl r1 hM (by omega) (fun z => ⟨fun _ => ⟨rfl, vp 1 (by decide), rfl, ?_⟩, fun y => absurd y (by decide)⟩) (fun z => ⟨fun y => absurd rfl y, fun _ => ⟨rfl, vq 0 (by decide), rfl, ?_⟩⟩)
    · rw [if_pos z] at E
      rw [s1']
      refine f_may rfl r1.1.1 hM (by omega) (fun z1 => ⟨fun _ => ⟨rfl, vp 2 (by decide), rfl, ?_⟩, fun y => absurd y (by decide)⟩) (fun z1 => ⟨fun y => absurd rfl y, fun _ => ⟨rfl, vq 1 (by decide), rfl, ?_⟩⟩)
      · rw [if_pos z1] at E
        rw [s2]
        refine f_may rfl r1.1.1 hM (by omega) (fun z2 => ⟨fun _ => ⟨rfl, vp 0 (by decide), rfl, vp 1 (by decide), rfl, vp 2 (by decide), rfl, ?_⟩, fun y => absurd y (by decide)⟩) (fun z2 => ⟨fun y => absurd rfl y, fun _ => ⟨rfl, vq 2 (by decide), rfl, ?_⟩⟩)
        · rw [if_pos z2] at E
          rw [s0, s1', s2]
          have hz := z.1
          refine f_sets r1 hG ⟨z.2.1, by omega⟩ z.2.2.2.1 (by omega) (by omega) (fun h2 k2 r2 => H1 _ E hq2 h2 ((g1.mo rLn_R).tr ⟨k2.mo r54_R, ?_, fun k _ => ?_⟩) r2)
          · rw [k2.i (by omega)]; exact g1.2.1
          · rw [k2.i (by omega)]
        · rw [if_neg z2] at E
          rw [b2]
          exact bd (6, gs r.1 2) E rfl
      · rw [if_neg z1] at E
        rw [b1]
        exact bd (6, gs r.1 1) E rfl
    · rw [if_neg z] at E
      rw [b0]
      exact bd (6, gs r.1 0) E rfl
  · rw [g1.2.1]
    exact f_tl (x := (5, q)) (fun h2 b2 => H0 (5, q) (by unfold rg1; rw [eq, bnd_l]) (by show 0 < 5; decide) (by show 5 < _; decide) h2 ((g1.mo rLn_R).bad (b2.mo r40_R)))
theorem f_bytes {h : sx_H} {n p M I O A : Nat} {t : Nat → Nat} {L OU : List Nat} {G : List gt} {f : Int32 → sx_H → Prop} (hm : mt h n t) (hp : h.1 40 30 = nI p) (hpn : p ≤ n) (hr : rN h M I O A L OU G) (hI : I ≤ 14) (hG : G.length < 300) (hL : ∀ a ∈ L, a / 2 ≠ I + 1 + G.length)
    (H1 : ∀ r, rb1 t n (2 * (I + 1 + G.length)) p = .inr r → r.2 ≤ n → ∀ h', gq rR h h' r.2 → rN h' M I O A L OU (G ++ [r.1]) → f 0 h')
    (H0 : ∀ x, rb1 t n (2 * (I + 1 + G.length)) p = .inl x → 0 < x.1 → x.1 < 2 ^ 31 → ∀ h', bR rR h h' x → f (nI x.1) h') :
    sx_X sx_w 89 0 [some (.ref 40), some (.int (nI G.length)), none, none, none, none] [] h (sx_qi f) := by
  have eown : 2 * (h.1 40 18 + nI G.length) + 2 = nI (2 * (I + 1 + G.length)) := by
    rw [hr.1.2.1, nI_add, show (2 : Int32) * nI (I + G.length) = nI (2 * (I + G.length)) from pk_mul 2 _, show nI (2 * (I + G.length)) + 2 = nI (2 * (I + G.length) + 2) from nI_add _ 2, show 2 * (I + G.length) + 2 = 2 * (I + 1 + G.length) by omega]
  refine g_89_0 h 40 _ ⟨rfl, rfl, rfl, ?_⟩
  rw [eown, hp]
  have hL' : ∀ a ∈ L, a / 2 ≠ 2 * (I + 1 + G.length) / 2 := fun a ha => by have := hL a ha; omega
  generalize hown : 2 * (I + 1 + G.length) = own at H1 H0 hL'
  have hown' : 1 < own ∧ own ≤ 2001 := by omega
  refine f_step hm hp hpn (fun r er hr1 hr2 h1 g1 => ⟨fun _ => ?_, fun z => absurd (nI_pos' (by omega)) z⟩) (fun q eq h1 g1 => ⟨fun z => absurd z (by decide), fun _ => ⟨rfl, rfl, ?_⟩⟩)
  · have E : rb1 t n own p = if r.1 = 0 ∨ own < r.1 then .inl (6, p) else bnd (rsE t n r.2) fun r2 => if own - r.1 < r2.1 then .inl (6, r.2) else .inr ((own, own - r.1, own - r.1 - r2.1), r2.2) := by
      unfold rb1; rw [er, bnd_r]
    refine f_in (fun z => ⟨fun _ => ⟨rfl, rfl, ?_⟩, fun y => absurd y (by decide)⟩) (fun z => ⟨fun y => absurd rfl y, fun _ => ⟨rfl, f_tl (x := (6, p)) (fun h2 b2 => H0 (6, p) ?_ (by show 0 < 6; decide) (by show 6 < _; decide) h2 ((g1.mo r40_R).bad (b2.mo r40_R)))⟩⟩)
    · have z1 : 1 ≤ r.1 := (nI_leI (a := 1) (by decide) (by omega)).mp z.1
      have z2 : r.1 ≤ own := (nI_leI (by omega) (by omega)).mp z.2
      rw [if_neg (by omega)] at E
      rw [pk_sub z2, g1.2.1]
      refine f_step (g1.mt hm (by unfold r40; decide)) g1.2.1 hr2 (fun r2 er2 hr21 hr22 h2 g2 => ⟨fun _ => ?_, fun z => absurd (nI_pos' (by omega)) z⟩) (fun q eq h2 g2 => ⟨fun z => absurd z (by decide), fun _ => ⟨rfl, rfl, ?_⟩⟩)
      · rw [er2, bnd_r] at E
        refine pk_le r2.1 (own - r.1) (fun y => ⟨rfl, ?_⟩) (fun y => ⟨rfl, f_tl (x := (6, r.2)) (fun h3 b3 => H0 (6, r.2) (by rw [E, if_pos y]) (by show 0 < 6; decide) (by show 6 < _; decide) h3 (((g1.tr g2).mo r40_R).bad (b3.mo r40_R)))⟩)
        rw [if_neg (by omega)] at E
        rw [pk_sub y]
        have r' := hr.kp ((g1.tr g2).mo r40_Ln)
        refine f_sets r' hG hown' hL' (by omega) (by omega) (fun h3 k3 r3 => H1 _ E hr22 h3 (((g1.tr g2).mo r40_R).tr ⟨k3.mo r54_R, ?_, fun k _ => ?_⟩) r3)
        · rw [k3.i (by omega)]; exact g2.2.1
        · rw [k3.i (by omega)]
      · rw [eq, bnd_l] at E
        rw [g2.2.1]
        exact f_tl (x := (5, q)) (fun h3 b3 => H0 (5, q) E (by show 0 < 5; decide) (by show 5 < _; decide) h3 (((g1.tr g2).mo r40_R).bad (b3.mo r40_R)))
    · rw [E, if_pos]
      refine Classical.byContradiction (fun y => z ⟨nI_le (a := 1) (by omega) (by omega), nI_le (by omega) (by omega)⟩)
  · rw [g1.2.1]
    exact f_tl (x := (5, q)) (fun h2 b2 => H0 (5, q) (by unfold rb1; rw [eq, bnd_l]) (by show 0 < 5; decide) (by show 5 < _; decide) h2 ((g1.mo r40_R).bad (b2.mo r40_R)))
