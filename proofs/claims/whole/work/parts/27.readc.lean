-- THE CLASS READS: lines, outputs, inputs, gates
/-- read well so far, the next byte's place is p -/
def gd (S : Nat → Prop) (h h' : sx_H) (p : Nat) : Prop := kp S h h' ∧ h'.1 1 6 = nI p ∧ h'.1 1 1 = h.1 1 1 ∧ h'.1 1 2 = h.1 1 2
/-- an error was told -/
def bad (S : Nat → Prop) (h h' : sx_H) (x : rE) : Prop := kp S h h' ∧ h'.1 1 1 = nI x.1 ∧ h'.1 1 2 = nI x.2
theorem gd.tr {S : Nat → Prop} {h h1 h2 : sx_H} {p q : Nat} (x : gd S h h1 p) (y : gd S h1 h2 q) : gd S h h2 q := ⟨x.1.tr y.1, y.2.1, y.2.2.1.trans x.2.2.1, y.2.2.2.trans x.2.2.2⟩
theorem gd.mo {S S' : Nat → Prop} {h h1 : sx_H} {p : Nat} (x : gd S h h1 p) (m : ∀ b, S b → S' b) : gd S' h h1 p := ⟨x.1.mo m, x.2⟩
theorem bad.mo {S S' : Nat → Prop} {h h1 : sx_H} {p : rE} (x : bad S h h1 p) (m : ∀ b, S b → S' b) : bad S' h h1 p := ⟨x.1.mo m, x.2⟩
theorem gd.bad {S : Nat → Prop} {h h1 h2 : sx_H} {p : Nat} {q : rE} (x : gd S h h1 p) (y : bad S h1 h2 q) : bad S h h2 q := ⟨x.1.tr y.1, y.2⟩
theorem kp.bad {S : Nat → Prop} {h h1 h2 : sx_H} {q : rE} (x : kp S h h1) (y : bad S h1 h2 q) : bad S h h2 q := ⟨x.tr y.1, y.2⟩
theorem e_readLn {h : sx_H} {n p cnt e : Nat} {t : Nat → Nat} {f : Int32 → sx_H → Prop} (hc : cnt ≤ 5) (hb : br h 2 1024 n t) (hp : h.1 1 6 = nI p) (hpn : p ≤ n)
    (H1 : ∀ r, rlE t n e cnt p = .inr r → p ≤ r.2 → r.2 ≤ n → (∀ i, i < cnt → gv r.1 i < 1000000000) → ∀ h', gd s145 h h' r.2 → (∀ i, i < cnt → h'.1 4 i = nI (gv r.1 i) ∧ h'.1 5 i = nI (gs r.1 i)) → f 1 h')
    (H0 : ∀ x, rlE t n e cnt p = .inl x → ∀ h', bad s145 h h' x → f 0 h') :
    sx_X sx_w 36 0 [some (.ref 1), some (.int (nI cnt)), some (.int (nI e)), none] [] h (sx_qi f) := by
  refine e_readLine hc hb hp hpn (fun l p2 hl h' k h6 ho hv => ?_) (fun q hq h' k h1 h2 => H0 _ (rlE_l hq) h' ⟨k, h1, h2⟩)
  obtain ⟨g1, g2, g3⟩ := rl_ok hpn hl
  exact H1 _ (rlE_r hl) g1 g2 (fun i hi => (gv_lt hpn hl hi).1) h' ⟨k, h6, ho 1 (by decide), ho 2 (by decide)⟩ (fun i hi => hv i _ _ (gvs (by rw [rl_len hl]; exact hi)))
theorem tk_iff {row : Nat → Int32} {M : Nat} {L : List Nat} {G : List gt} {m : Nat} (h : ndOK row L G) (hM : M ≤ 1000) (hL : L.length ≤ 14) (hG : G.length ≤ 300) : tk M row m ↔ tkL M L G m := by
  refine ⟨fun z => ⟨z.1, z.2.1, z.2.2.1, (h.fr hL hG (by have := z.1; omega)).mp z.2.2.2⟩, fun z => ⟨z.1, z.2.1, z.2.2.1, (h.fr hL hG (by have := z.1; omega)).mpr z.2.2.2⟩⟩
theorem e_ownFits {h : sx_H} {c M I O A i v s : Nat} {L OU : List Nat} {G : List gt} {f : Int32 → sx_H → Prop} (hc : cc c) (hr : rI h c M I O A L OU G) (hM : M ≤ 1000) (hL : L.length ≤ 14) (hG : G.length ≤ 300) (hi : i < 5) (hv : h.1 4 i = nI v) (hs : h.1 5 i = nI s) (hv' : v < 2 ^ 31)
    (H1 : tkL M L G v → f 1 h) (H0 : ¬ tkL M L G v → ∀ h', bad s1 h h' (6, s) → f 0 h') : sx_X sx_w 31 0 [some (.ref 1), some (.ref c), some (.int (nI i))] [] h (sx_qi f) := by
  obtain ⟨q0, q1, q2, q3, q4, q5, q6, q7, -⟩ := cc_sh hc
  refine g_31_0 h 1 c (nI i) ⟨rfl, e_pick (a := 1 + 3) (n := 5) rfl (by decide) ?_⟩
  rw [pk_nI hi (by decide), show h.1 (1 + 3) i = nI v from hv]
  refine ⟨q0, e_canTake q0 q7 hr.1.2.2.2 hM hv' (fun z => ⟨fun _ => ⟨Or.inr rfl, H1 ((tk_iff hr.2.2.2.2.2 hM hL hG).mp z)⟩, fun y => absurd y (by decide)⟩) (fun z => ⟨fun y => absurd rfl y, fun _ => ⟨rfl, ?_⟩⟩)⟩
  refine e_pick (a := 1 + 4) (n := 5) rfl (by decide) ?_
  rw [pk_nI hi (by decide), show h.1 (1 + 4) i = nI s from hs]
  exact ⟨rfl, e_fail (fun h' k e1 e2 => ⟨fun _ => ⟨Or.inl rfl, H0 (fun y => z ((tk_iff hr.2.2.2.2.2 hM hL hG).mpr y)) h' ⟨k, e1, e2⟩⟩, fun y => absurd rfl y⟩)⟩
theorem e_usedFits {h : sx_H} {c M I O A i v s : Nat} {L OU : List Nat} {G : List gt} {f : Int32 → sx_H → Prop} (hc : cc c) (hr : rI h c M I O A L OU G) (hM : M ≤ 1000) (hi : i < 5) (hv : h.1 4 i = nI v) (hs : h.1 5 i = nI s) (hv' : v < 2 ^ 31)
    (H1 : v ≤ 2 * M + 1 → f 1 h) (H0 : ¬ v ≤ 2 * M + 1 → ∀ h', bad s1 h h' (6, s) → f 0 h') : sx_X sx_w 32 0 [some (.ref 1), some (.ref c), some (.int (nI i))] [] h (sx_qi f) := by
  obtain ⟨q0, -⟩ := cc_sh hc
  refine g_32_0 h 1 c (nI i) ⟨rfl, e_pick (a := 1 + 3) (n := 5) rfl (by decide) ?_⟩
  rw [pk_nI hi (by decide), show h.1 (1 + 3) i = nI v from hv]
  refine ⟨q0, e_isLiteral q0 hr.1.2.2.2 hM (fun z1 z2 => ⟨fun _ => ⟨Or.inr rfl, H1 (by rw [nI_toInt hv'] at z2; omega)⟩, fun y => absurd y (by decide)⟩) (fun z => ⟨fun y => absurd rfl y, fun _ => ⟨rfl, ?_⟩⟩)⟩
  refine e_pick (a := 1 + 4) (n := 5) rfl (by decide) ?_
  rw [pk_nI hi (by decide), show h.1 (1 + 4) i = nI s from hs]
  exact ⟨rfl, e_fail (fun h' k e1 e2 => ⟨fun _ => ⟨Or.inl rfl, H0 (fun y => z (by rw [nI_toInt hv']; omega)) h' ⟨k, e1, e2⟩⟩, fun y => absurd rfl y⟩)⟩
theorem ro_len {t : Nat → Nat} {n M : Nat} : ∀ {c p : Nat} {L L' : List Nat} {p' : Nat}, ro t n M c p L = .inr (L', p') → L'.length = L.length + c
  | 0, p, L, L', p', h => by cases h; rfl
  | c + 1, p, L, L', p', h => by
    unfold ro bnd at h
    split at h
    · cases h
    · dsimp only at h
      split at h
      · rw [ro_len h, List.length_append]; simp; omega
      · cases h
theorem e_readOutputs {h : sx_H} {n p c M I O A : Nat} {t : Nat → Nat} {L : List Nat} {G : List gt} {f : Int32 → sx_H → Prop} (hc : cc c) (hb : br h 2 1024 n t) (hp : h.1 1 6 = nI p) (hpn : p ≤ n) (hr : rI h c M I O A L [] G) (hM : M ≤ 1000) (hO : O ≤ 16)
    (H1 : ∀ r, ro t n M O p [] = .inr r → r.2 ≤ n → ∀ h', gd (sC c) h h' r.2 → rI h' c M I O A L r.1 G → f 1 h')
    (H0 : ∀ x, ro t n M O p [] = .inl x → ∀ h', bad (sC c) h h' x → f 0 h') :
    sx_X sx_w 30 0 [some (.ref 1), some (.ref c), none] [] h (sx_qi f) := by
  have key : ∀ (d : Nat) (OU : List Nat) (q : Nat) (h0 : sx_H), OU.length + d = O → q ≤ n → ro t n M d q OU = ro t n M O p [] → gd (sC c) h h0 q → rI h0 c M I O A L OU G → sx_X sx_w 30 2 [some (.ref 1), some (.ref c), some (.int (nI OU.length))] [] h0 (sx_qi f) := by
    intro d
    induction d with
    | zero =>
      intro OU q h0 hl hq E g r
      refine g_30_2 h0 1 c _ ⟨(cc_sh hc).1, ?_⟩
      rw [r.1.2.2.1]
      refine ⟨fun _ => ⟨Or.inr rfl, H1 (OU, q) E.symm hq h0 g r⟩, fun z => absurd (nI_le (by omega) (by omega)) z⟩
    | succ d ih =>
      intro OU q h0 hl hq E g r
      have hb0 : br h0 2 1024 n t := br2C hb hc g.1
      refine g_30_2 h0 1 c _ ⟨(cc_sh hc).1, ?_⟩
      rw [r.1.2.2.1]
      refine ⟨fun z => absurd z (nI_ge (by omega) (by omega)), fun _ => ⟨rfl, ?_⟩⟩
      refine e_readLn (cnt := 1) (e := 5) (by decide) hb0 g.2.1 hq (fun r1 er hq1 hq2 hv h1 g1 hn => ?_) (fun x er h1 b1 => ?_)
      · refine ⟨fun y => absurd y (by decide), fun _ => ⟨rfl, ?_⟩⟩
        have E1 : (if gv r1.1 0 ≤ 2 * M + 1 then ro t n M d r1.2 (OU ++ [gv r1.1 0]) else .inl (6, gs r1.1 0)) = ro t n M O p [] := by
          rw [← E]; show _ = bnd (rlE t n 5 1 q) _; rw [er]; rfl
        have r' := r.kp hc g1.1
        have hv0 := hv 0 (by decide)
        refine e_usedFits (i := 0) hc r' hM (by decide) (hn 0 (by decide)).1 (hn 0 (by decide)).2 (by omega) (fun hle => ?_) (fun hle h2 b2 => ?_)
        · refine ⟨fun _ => ⟨(cc_sh hc).1, rfl, ?_⟩, fun y => absurd y (by decide)⟩
          refine e_pick (a := 1 + 3) (n := 5) rfl (by decide) ?_
          rw [show pk (h1.1 (1 + 3)) 5 0 = nI (gv r1.1 0) from (pk_nI (k := 0) (by decide) (by decide)).trans (hn 0 (by decide)).1]
          refine e_store (n := 16) rfl (cc_sh hc).2.2.1 (by decide) ?_
          rw [st_nI (by omega) (by decide), nI_1]
          rw [if_pos hle] at E1
          have hcc := hc
          unfold cc at hcc
          have := ih (OU ++ [gv r1.1 0]) r1.2 (hw h1 (c + 2) (va_up (h1.1 (c + 2)) OU.length (nI (gv r1.1 0)))) (by rw [List.length_append]; simp; omega) hq2 E1 ((g.tr (g1.mo s145_C)).tr ⟨hw_u7 (j := 2) rfl (by decide), ?_, ?_, ?_⟩) (r'.out hc)
          · rw [List.length_append] at this
            exact this
          · rw [hw_ne _ _ (by omega)]; exact g1.2.1
          · rw [hw_ne _ _ (by omega)]
          · rw [hw_ne _ _ (by omega)]
        · refine ⟨fun y => absurd rfl y, fun _ => ⟨Or.inl rfl, ?_⟩⟩
          rw [if_neg hle] at E1
          exact H0 _ E1.symm h2 ((g.tr (g1.mo s145_C)).bad (b2.mo s1_C))
      · refine ⟨fun _ => ⟨Or.inl rfl, ?_⟩, fun y => absurd rfl y⟩
        refine H0 x ?_ h1 (g.bad (b1.mo s145_C))
        rw [← E]; show bnd (rlE t n 5 1 q) _ = _; rw [er]; rfl
  exact g_30_0 h 1 c (key O [] p h (by simp) hpn rfl ⟨kp.rf, hp, rfl, rfl⟩ hr)
theorem e_readDecimal {h : sx_H} {n p c M I O A : Nat} {t : Nat → Nat} {f : Int32 → sx_H → Prop} (hc : cc c) (hb : br h 2 1024 n t) (hp : h.1 1 6 = nI p) (hpn : p ≤ n) (hr : rI h c M I O A [] [] []) (hM : M ≤ 1000) (hI : I ≤ 14) (hO : O ≤ 16) (hA : A ≤ 300)
    (H1 : ∀ a b g, ri t n M I p [] = .inr a → ro t n M O a.2 [] = .inr b → rg t n M a.1 A b.2 [] = .inr g → g.2 ≤ n → ∀ h', gd (sC c) h h' g.2 → rI h' c M I O A a.1 b.1 g.1 → f 1 h')
    (H0 : ∀ x, (bnd (ri t n M I p []) fun a => bnd (ro t n M O a.2 []) fun b => rg t n M a.1 A b.2 []) = .inl x → ∀ h', bad (sC c) h h' x → f 0 h') :
    sx_X sx_w 28 0 [some (.ref 1), some (.ref c), none] [] h (sx_qi f) := by
  obtain ⟨q0, q1, q2, q3, q4, q5, q6, q7, -⟩ := cc_sh hc
  have keyG : ∀ (a b : List Nat × Nat), ri t n M I p [] = .inr a → ro t n M O a.2 [] = .inr b → a.1.length ≤ 14 → ∀ (d : Nat) (G : List gt) (q : Nat) (h0 : sx_H), G.length + d = A → q ≤ n → rg t n M a.1 d q G = rg t n M a.1 A b.2 [] → gd (sC c) h h0 q → rI h0 c M I O A a.1 b.1 G → sx_X sx_w 28 61 [some (.ref 1), some (.ref c), some (.int (nI G.length))] [] h0 (sx_qi f) := by
    intro a b ea eb ha d
    induction d with
    | zero =>
      intro G q h0 hl hq E g r
      refine g_28_61 h0 1 c _ ⟨q0, ?_⟩
      rw [r.1.2.1]
      exact ⟨fun _ => ⟨Or.inr rfl, H1 a b (G, q) ea eb E.symm hq h0 g r⟩, fun z => absurd (nI_le (by omega) (by omega)) z⟩
    | succ d ih =>
      intro G q h0 hl hq E g r
      have hb0 : br h0 2 1024 n t := br2C hb hc g.1
      refine g_28_61 h0 1 c _ ⟨q0, ?_⟩
      rw [r.1.2.1]
      refine ⟨fun z => absurd z (nI_ge (by omega) (by omega)), fun _ => ⟨rfl, ?_⟩⟩
      refine e_readLn (cnt := 3) (e := 5) (by decide) hb0 g.2.1 hq (fun r1 er hq1 hq2 hv h1 g1 hn => ?_) (fun x er h1 b1 => ?_)
      · refine ⟨fun y => absurd y (by decide), fun _ => ⟨rfl, ?_⟩⟩
        have E1 : (if tkL M a.1 G (gv r1.1 0) then
            if gv r1.1 1 ≤ 2 * M + 1 then
              if gv r1.1 2 ≤ 2 * M + 1 then rg t n M a.1 d r1.2 (G ++ [(gv r1.1 0, gv r1.1 1, gv r1.1 2)])
              else .inl (6, gs r1.1 2)
            else .inl (6, gs r1.1 1)
          else .inl (6, gs r1.1 0)) = rg t n M a.1 A b.2 [] := by
          rw [← E]; show _ = bnd (rlE t n 5 3 q) _; rw [er]; rfl
        have r' := r.kp hc g1.1
        have hv0 := hv 0 (by decide)
        have hv1 := hv 1 (by decide)
        have hv2 := hv 2 (by decide)
        have bdd : ∀ x h2, rg t n M a.1 A b.2 [] = .inl x → bad s1 h1 h2 x → f 0 h2 := fun x h2 ex b2 => H0 x (by rw [ea, bnd_r, eb, bnd_r]; exact ex) h2 ((g.tr (g1.mo s145_C)).bad (b2.mo s1_C))
        refine e_ownFits (i := 0) hc r' hM ha (by omega) (by decide) (hn 0 (by decide)).1 (hn 0 (by decide)).2 (by omega) (fun hle => ?_) (fun hle h2 b2 => ⟨fun _ => ⟨Or.inl rfl, bdd _ h2 (by rw [← E1, if_neg hle]) b2⟩, fun y => absurd rfl y⟩)
        rw [if_pos hle] at E1
        refine ⟨fun y => absurd y (by decide), fun _ => ⟨rfl, ?_⟩⟩
        refine e_usedFits (i := 1) hc r' hM (by decide) (hn 1 (by decide)).1 (hn 1 (by decide)).2 (by omega) (fun hle1 => ?_) (fun hle h2 b2 => ⟨fun _ => ⟨Or.inl rfl, bdd _ h2 (by rw [← E1, if_neg hle]) b2⟩, fun y => absurd rfl y⟩)
        rw [if_pos hle1] at E1
        refine ⟨fun y => absurd y (by decide), fun _ => ⟨rfl, ?_⟩⟩
        refine e_usedFits (i := 2) hc r' hM (by decide) (hn 2 (by decide)).1 (hn 2 (by decide)).2 (by omega) (fun hle2 => ?_) (fun hle h2 b2 => ⟨fun y => absurd rfl y, fun _ => ⟨Or.inl rfl, bdd _ h2 (by rw [← E1, if_neg hle]) b2⟩⟩)
        rw [if_pos hle2] at E1
        refine ⟨fun _ => ⟨rfl, ?_⟩, fun y => absurd y (by decide)⟩
        refine e_pick (a := 1 + 3) (n := 5) rfl (by decide) ⟨rfl, e_pick (a := 1 + 3) (n := 5) rfl (by decide) ⟨rfl, e_pick (a := 1 + 3) (n := 5) rfl (by decide) ⟨q0, ?_⟩⟩⟩
        rw [show pk (h1.1 (1 + 3)) 5 0 = nI (gv r1.1 0) from (pk_nI (k := 0) (by decide) (by decide)).trans (hn 0 (by decide)).1, show pk (h1.1 (1 + 3)) 5 1 = nI (gv r1.1 1) from (pk_nI (k := 1) (by decide) (by decide)).trans (hn 1 (by decide)).1, show pk (h1.1 (1 + 3)) 5 2 = nI (gv r1.1 2) from (pk_nI (k := 2) (by decide) (by decide)).trans (hn 2 (by decide)).1]
        refine e_setGate hc r' (by omega) (by have := hle.1; omega) (by omega) (by omega) (fun h2 k2 e1 _ _ r2 => ?_)
        rw [nI_1]
        have := ih (G ++ [(gv r1.1 0, gv r1.1 1, gv r1.1 2)]) r1.2 h2 (by rw [List.length_append]; simp; omega) hq2 E1 ((g.tr (g1.mo s145_C)).tr ⟨k2, by rw [e1]; exact g1.2.1, by rw [e1], by rw [e1]⟩) r2
        rw [List.length_append] at this
        exact this
      · refine ⟨fun _ => ⟨Or.inl rfl, ?_⟩, fun y => absurd rfl y⟩
        refine H0 x ?_ h1 (g.bad (b1.mo s145_C))
        rw [ea, bnd_r, eb, bnd_r, ← E]; show bnd (rlE t n 5 3 q) _ = _; rw [er]; rfl
  have keyI : ∀ (d : Nat) (L : List Nat) (q : Nat) (h0 : sx_H), L.length + d = I → q ≤ n → ri t n M d q L = ri t n M I p [] → gd (sC c) h h0 q → rI h0 c M I O A L [] [] → sx_X sx_w 28 2 [some (.ref 1), some (.ref c), some (.int (nI L.length))] [] h0 (sx_qi f) := by
    intro d
    induction d with
    | zero =>
      intro L q h0 hl hq E g r
      have hb0 : br h0 2 1024 n t := br2C hb hc g.1
      refine g_28_2 h0 1 c _ ⟨q0, ?_⟩
      rw [r.1.1]
      refine ⟨fun _ => ⟨rfl, ?_⟩, fun z => absurd (nI_le (by omega) (by omega)) z⟩
      refine e_readOutputs hc hb0 g.2.1 hq r hM hO (fun b eb hbn h1 g1 r1 => ⟨fun _ => ?_, fun y => absurd y (by decide)⟩) (fun x ex h1 b1 => ⟨fun y => absurd rfl y, fun _ => ⟨Or.inl rfl, ?_⟩⟩)
      · exact keyG (L, q) b E.symm eb (show L.length ≤ 14 by omega) A [] b.2 h1 (by simp) hbn rfl (g.tr g1) r1
      · exact H0 x (by rw [← E, show ri t n M 0 q L = .inr (L, q) from rfl, bnd_r, ex, bnd_l]) h1 (g.bad b1)
    | succ d ih =>
      intro L q h0 hl hq E g r
      have hb0 : br h0 2 1024 n t := br2C hb hc g.1
      refine g_28_2 h0 1 c _ ⟨q0, ?_⟩
      rw [r.1.1]
      refine ⟨fun z => absurd z (nI_ge (by omega) (by omega)), fun _ => ⟨rfl, ?_⟩⟩
      refine e_readLn (cnt := 1) (e := 5) (by decide) hb0 g.2.1 hq (fun r1 er hq1 hq2 hv h1 g1 hn => ?_) (fun x er h1 b1 => ?_)
      · refine ⟨fun y => absurd y (by decide), fun _ => ⟨rfl, ?_⟩⟩
        have E1 : (if tkL M L [] (gv r1.1 0) then ri t n M d r1.2 (L ++ [gv r1.1 0]) else .inl (6, gs r1.1 0)) = ri t n M I p [] := by
          rw [← E]; show _ = bnd (rlE t n 5 1 q) _; rw [er]; rfl
        have r' := r.kp hc g1.1
        have hv0 := hv 0 (by decide)
        refine e_ownFits (i := 0) hc r' hM (by omega) (by simp) (by decide) (hn 0 (by decide)).1 (hn 0 (by decide)).2 (by omega) (fun hle => ?_) (fun hle h2 b2 => ⟨fun y => absurd rfl y, fun _ => ⟨Or.inl rfl, ?_⟩⟩)
        · refine ⟨fun _ => ⟨rfl, ?_⟩, fun y => absurd y (by decide)⟩
          refine e_pick (a := 1 + 3) (n := 5) rfl (by decide) ⟨q0, ?_⟩
          rw [show pk (h1.1 (1 + 3)) 5 0 = nI (gv r1.1 0) from (pk_nI (k := 0) (by decide) (by decide)).trans (hn 0 (by decide)).1]
          rw [if_pos hle] at E1
          refine e_setInput hc r' (by omega) (by have := hle.1; omega) (fun h2 k2 e1 _ _ r2 => ?_)
          rw [nI_1]
          have := ih (L ++ [gv r1.1 0]) r1.2 h2 (by rw [List.length_append]; simp; omega) hq2 E1 ((g.tr (g1.mo s145_C)).tr ⟨k2, by rw [e1]; exact g1.2.1, by rw [e1], by rw [e1]⟩) r2
          rw [List.length_append] at this
          exact this
        · rw [if_neg hle] at E1
          exact H0 _ (by rw [← E1, bnd_l]) h2 ((g.tr (g1.mo s145_C)).bad (b2.mo s1_C))
      · refine ⟨fun _ => ⟨Or.inl rfl, ?_⟩, fun y => absurd rfl y⟩
        refine H0 x ?_ h1 (g.bad (b1.mo s145_C))
        rw [← E, show ri t n M (d + 1) q L = bnd (rlE t n 5 1 q) _ from rfl, er, bnd_l, bnd_l]
  exact g_28_0 h 1 c (keyI I [] p h (by simp) hpn rfl ⟨kp.rf, hp, rfl, rfl⟩ hr)
