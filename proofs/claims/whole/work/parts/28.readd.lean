theorem i_sub {x y : Int32} (h1 : -2147483648 ≤ x.toInt - y.toInt) (h2 : x.toInt - y.toInt < 2147483648) : (x - y).toInt = x.toInt - y.toInt := by
  rw [Int32.toInt_sub]
  exact Int.bmod_eq_of_le (by omega) (by omega)
theorem nI_subneg {a b : Nat} (h : a < b) (hb : b < 2 ^ 31) : ¬ 0 ≤ nI a - nI b := by
  intro z
  rw [Int32.le_iff_toInt_le, i_sub (by rw [nI_toInt (by omega), nI_toInt hb]; omega) (by rw [nI_toInt (by omega), nI_toInt hb]; omega), nI_toInt (by omega), nI_toInt hb] at z
  have : (0 : Int32).toInt = 0 := rfl
  omega
theorem rs_bd {t : Nat → Nat} {n p : Nat} (ht : ∀ i, i < n → t i < 256) {r : Nat × Nat} (h : rsE t n p = .inr r) : r.1 < 16384 ∧ r.2 ≤ n := by
  unfold rsE rs at h
  by_cases h1 : p < n
  · rw [if_pos h1] at h
    by_cases h2 : t p < 128
    · rw [if_pos h2] at h; cases h; exact ⟨by show t p < _; omega, h1⟩
    · rw [if_neg h2] at h
      by_cases h3 : p + 1 < n ∧ 1 ≤ t (p + 1) ∧ t (p + 1) < 128
      · rw [if_pos h3] at h; cases h; have := ht p h1; exact ⟨by show t p - 128 + 128 * t (p + 1) < _; omega, by show p + 2 ≤ n; omega⟩
      · rw [if_neg h3] at h; cases h
  · rw [if_neg h1] at h; cases h
theorem rs_ble {t : Nat → Nat} {n p : Nat} {r : Nat × Nat} (h : rsE t n p = .inr r) : p ≤ r.2 := by
  unfold rsE rs at h
  by_cases h1 : p < n
  · rw [if_pos h1] at h
    by_cases h2 : t p < 128
    · rw [if_pos h2] at h; cases h; exact Nat.le_succ _
    · rw [if_neg h2] at h
      by_cases h3 : p + 1 < n ∧ 1 ≤ t (p + 1) ∧ t (p + 1) < 128
      · rw [if_pos h3] at h; cases h; exact Nat.le_add_right _ _
      · rw [if_neg h3] at h; cases h
  · rw [if_neg h1] at h; cases h
theorem e_readSt {h : sx_H} {n p : Nat} {t : Nat → Nat} {f : Int32 → sx_H → Prop} (hb : br h 2 1024 n t) (hp : h.1 1 6 = nI p) (hpn : p ≤ n)
    (H1 : ∀ r, rsE t n p = .inr r → r.1 < 16384 → r.2 ≤ n → ∀ h', gd s1 h h' r.2 → h'.1 1 5 = nI r.1 → f 1 h')
    (H0 : ∀ x, rsE t n p = .inl x → ∀ h', bad s1 h h' x → f 0 h') : sx_X sx_w 34 0 [some (.ref 1), none, none] [] h (sx_qi f) := by
  refine e_readStep hb hp hpn (fun v p2 hr h' k h6 h5 ho => ?_) (fun q hq h' k h1 h2 => H0 _ (rsE_l hq) h' ⟨k, h1, h2⟩)
  have b := rs_bd (fun i hi => hb.lt hi) (rsE_r hr)
  exact H1 _ (rsE_r hr) b.1 b.2 h' ⟨k, h6, ho 1 (by decide) (by decide), ho 2 (by decide) (by decide)⟩ h5
theorem e_readGateSteps {h : sx_H} {n p c M I O A : Nat} {t : Nat → Nat} {L OU : List Nat} {G : List gt} {f : Int32 → sx_H → Prop} (hc : cc c) (hb : br h 2 1024 n t) (hp : h.1 1 6 = nI p) (hpn : p ≤ n) (hr : rI h c M I O A L OU G) (hI : I ≤ 14) (hG : G.length < 300)
    (H1 : ∀ r, rb1 t n (2 * (I + 1 + G.length)) p = .inr r → r.2 ≤ n → ∀ h', gd (sC c) h h' r.2 → rI h' c M I O A L OU (G ++ [r.1]) → f 1 h')
    (H0 : ∀ x, rb1 t n (2 * (I + 1 + G.length)) p = .inl x → ∀ h', bad (sC c) h h' x → f 0 h') :
    sx_X sx_w 33 0 [some (.ref 1), some (.ref c), some (.int (nI G.length)), none, none, none] [] h (sx_qi f) := by
  obtain ⟨q0, -⟩ := cc_sh hc
  have eown : 2 * ((h.1 c 0 + 1) + nI G.length) = nI (2 * (I + 1 + G.length)) := by
    rw [hr.1.1, nI_1, nI_add, show (2 : Int32) = nI 2 from rfl, pk_mul]
  refine g_33_0 h 1 c _ ⟨q0, rfl, rfl, ?_⟩
  rw [eown, hp]
  generalize hown : 2 * (I + 1 + G.length) = own at H1 H0
  have hown' : own ≤ 2001 := by omega
  refine e_readSt hb hp hpn (fun r er hr1 hr2 h1 g1 h15 => ?_) (fun x ex h1 b1 => ⟨fun y => absurd rfl y, fun _ => ⟨Or.inl rfl, ?_⟩⟩)
  · refine ⟨fun _ => ⟨rfl, rfl, ?_⟩, fun y => absurd y (by decide)⟩
    rw [h15]
    have E : rb1 t n own p = if r.1 = 0 ∨ own < r.1 then .inl (6, p) else bnd (rsE t n r.2) fun r2 => if own - r.1 < r2.1 then .inl (6, r.2) else .inr ((own, own - r.1, own - r.1 - r2.1), r2.2) := by
      unfold rb1; rw [er, bnd_r]
    refine ⟨fun z => ⟨rfl, e_fail (fun h2 k2 e1 e2 => ⟨Or.inl rfl, H0 (6, p) ?_ h2 ((g1.mo s1_C).bad ⟨k2.mo s1_C, e1, e2⟩)⟩)⟩, fun z => ⟨fun z2 => ⟨rfl, rfl, ?_⟩, fun z2 => ⟨rfl, e_fail (fun h2 k2 e1 e2 => ⟨Or.inl rfl, H0 (6, p) ?_ h2 ((g1.mo s1_C).bad ⟨k2.mo s1_C, e1, e2⟩)⟩)⟩⟩⟩
    · rw [E, if_pos (Or.inl ((nI_eq (a := r.1) (b := 0) (by omega) (by decide)).mp z))]
    · have z0 : ¬ r.1 = 0 := fun q => z (by rw [q]; rfl)
      have zo : ¬ own < r.1 := fun q => nI_subneg q (by omega) z2
      rw [if_neg (by omega)] at E
      have hb1 : br h1 2 1024 n t := br2C hb hc (g1.1.mo s1_C)
      rw [pk_sub (by omega), g1.2.1]
      refine e_readSt hb1 g1.2.1 hr2 (fun r2 er2 hr21 hr22 h2 g2 h25 => ?_) (fun x ex h2 b2 => ⟨fun y => absurd rfl y, fun _ => ⟨Or.inl rfl, ?_⟩⟩)
      · refine ⟨fun _ => ⟨rfl, ?_⟩, fun y => absurd y (by decide)⟩
        rw [h25]
        rw [er2, bnd_r] at E
        refine ⟨fun y => ⟨rfl, q0, ?_⟩, fun y => ⟨rfl, e_fail (fun h3 k3 e1 e2 => ⟨Or.inl rfl, H0 (6, r.2) ?_ h3 (((g1.tr g2).mo s1_C).bad ⟨k3.mo s1_C, e1, e2⟩)⟩)⟩⟩
        · have y' : ¬ own - r.1 < r2.1 := by have := (nI_leI (by omega) (by omega)).mp y; omega
          rw [if_neg y'] at E
          rw [pk_sub (by omega)]
          have r' : rI h2 c M I O A L OU G := hr.kp hc ((g1.tr g2).1.mo s1_145)
          refine e_setGate hc r' hG hown' (by omega) (by omega) (fun h3 k3 e1 _ _ r3 => ⟨Or.inr rfl, H1 _ E hr22 h3 (((g1.tr g2).mo s1_C).tr ⟨k3, by rw [e1]; exact g2.2.1, by rw [e1], by rw [e1]⟩) r3⟩)
        · rw [E, if_pos (Nat.not_le.mp (fun q => y (nI_le q (by omega))))]
      · rw [ex, bnd_l] at E
        exact H0 x E h2 (((g1.mo s1_C).bad (b2.mo s1_C)))
    · rw [E, if_pos (Or.inr (Nat.not_le.mp (fun q => z2 (by rw [pk_sub q]; exact Int32.le_iff_toInt_le.mpr (by rw [nI_toInt (by omega)]; show (0:Int) ≤ _; omega)))))]
  · refine H0 x ?_ h1 (b1.mo s1_C)
    unfold rb1; rw [ex, bnd_l]
theorem e_readBinary {h : sx_H} {n p c M I O A : Nat} {t : Nat → Nat} {f : Int32 → sx_H → Prop} (hc : cc c) (hb : br h 2 1024 n t) (hp : h.1 1 6 = nI p) (hpn : p ≤ n) (hr : rI h c M I O A [] [] []) (hM : M ≤ 1000) (hI : I ≤ 14) (hO : O ≤ 16) (hA : A ≤ 300)
    (H1 : ∀ b g, ro t n M O p [] = .inr b → rb t n I A b.2 [] = .inr g → g.2 ≤ n → ∀ h', gd (sC c) h h' g.2 → rI h' c M I O A (bI I) b.1 g.1 → f 1 h')
    (H0 : ∀ x, (bnd (ro t n M O p []) fun b => rb t n I A b.2 []) = .inl x → ∀ h', bad (sC c) h h' x → f 0 h') :
    sx_X sx_w 29 0 [some (.ref 1), some (.ref c), none] [] h (sx_qi f) := by
  obtain ⟨q0, q1, q2, q3, q4, q5, q6, q7, -⟩ := cc_sh hc
  have keyG : ∀ (b : List Nat × Nat), ro t n M O p [] = .inr b → ∀ (d : Nat) (G : List gt) (q : Nat) (h0 : sx_H), G.length + d = A → q ≤ n → rb t n I d q G = rb t n I A b.2 [] → gd (sC c) h h0 q → rI h0 c M I O A (bI I) b.1 G → sx_X sx_w 29 38 [some (.ref 1), some (.ref c), some (.int (nI G.length))] [] h0 (sx_qi f) := by
    intro b eb d
    induction d with
    | zero =>
      intro G q h0 hl hq E g r
      refine g_29_38 h0 1 c _ ⟨q0, ?_⟩
      rw [r.1.2.1]
      exact ⟨fun _ => ⟨Or.inr rfl, H1 b (G, q) eb E.symm hq h0 g r⟩, fun z => absurd (nI_le (by omega) (by omega)) z⟩
    | succ d ih =>
      intro G q h0 hl hq E g r
      have hb0 : br h0 2 1024 n t := br2C hb hc g.1
      refine g_29_38 h0 1 c _ ⟨q0, ?_⟩
      rw [r.1.2.1]
      refine ⟨fun z => absurd z (nI_ge (by omega) (by omega)), fun _ => ⟨rfl, ?_⟩⟩
      refine e_readGateSteps hc hb0 g.2.1 hq r hI (by omega) (fun r1 er hr1 h1 g1 r2 => ⟨fun _ => ?_, fun y => absurd y (by decide)⟩) (fun x ex h1 b1 => ⟨fun y => absurd rfl y, fun _ => ⟨Or.inl rfl, ?_⟩⟩)
      · rw [nI_1]
        have := ih (G ++ [r1.1]) r1.2 h1 (by rw [List.length_append]; simp; omega) hr1 (by rw [← E]; show _ = bnd (rb1 t n _ q) _; rw [er, bnd_r]) (g.tr g1) r2
        rw [List.length_append] at this
        exact this
      · exact H0 x (by rw [eb, bnd_r, ← E]; show bnd (rb1 t n _ q) _ = _; rw [ex, bnd_l]) h1 (g.bad b1)
  have keyI : ∀ (d k : Nat) (h0 : sx_H), k + d = I → gd (sC c) h h0 p → rI h0 c M I O A (bI k) [] [] → sx_X sx_w 29 2 [some (.ref 1), some (.ref c), some (.int (nI k))] [] h0 (sx_qi f) := by
    intro d
    induction d with
    | zero =>
      intro k h0 hl g r
      have hb0 : br h0 2 1024 n t := br2C hb hc g.1
      refine g_29_2 h0 1 c _ ⟨q0, ?_⟩
      rw [r.1.1]
      refine ⟨fun _ => ⟨rfl, ?_⟩, fun z => absurd (nI_le (by omega) (by omega)) z⟩
      have hk : k = I := by omega
      subst hk
      refine e_readOutputs hc hb0 g.2.1 hpn r hM hO (fun b eb hbn h1 g1 r1 => ⟨fun _ => ?_, fun y => absurd y (by decide)⟩) (fun x ex h1 b1 => ⟨fun y => absurd rfl y, fun _ => ⟨Or.inl rfl, ?_⟩⟩)
      · exact keyG b eb A [] b.2 h1 (by simp) hbn rfl (g.tr g1) r1
      · exact H0 x (by rw [ex, bnd_l]) h1 (g.bad b1)
    | succ d ih =>
      intro k h0 hl g r
      refine g_29_2 h0 1 c _ ⟨q0, ?_⟩
      rw [r.1.1]
      refine ⟨fun z => absurd z (nI_ge (by omega) (by omega)), fun _ => ⟨q0, ?_⟩⟩
      rw [nI_1, show (2 : Int32) = nI 2 from rfl, pk_mul]
      have := e_setInput (x := 2 * (k + 1)) (f := fun h3 => sx_X sx_w 29 2 [some (.ref 1), some (.ref c), some (.int (nI (k + 1)))] [] h3 (sx_qi f)) hc r (by rw [bI_len]; omega) (by omega) (fun h2 k2 e1 _ _ r2 => ih (k + 1) h2 (by omega) (g.tr ⟨k2, by rw [e1]; exact g.2.1, by rw [e1], by rw [e1]⟩) r2)
      rw [bI_len] at this
      exact this
  exact g_29_0 h 1 c (keyI I 0 h (by simp) ⟨kp.rf, hp, rfl, rfl⟩ hr)
