-- THE REFERENCE READS A TEXT
def KG (t : Nat → Nat) (n M I O A : Nat) (L OU : List Nat) (g : List gt × Nat) : rE ⊕ rC := bnd (rnd t n g.2) fun _ => .inr ((M, I, O, A), L, OU, g.1)
def KO (t : Nat → Nat) (n M I O A : Nat) (L : List Nat) (bin : Bool) (b : List Nat × Nat) : rE ⊕ rC := bnd (rGt t n M I A b.2 L bin) (KG t n M I O A L b.1)
def KI (t : Nat → Nat) (n M I O A : Nat) (bin : Bool) (a : List Nat × Nat) : rE ⊕ rC := bnd (ro t n M O a.2 []) (KO t n M I O A a.1 bin)
theorem rBody_K {t : Nat → Nat} {n M I O A p : Nat} {bin : Bool} : rBody t n M I O A p bin = bnd (rIn t n M I p bin) (KI t n M I O A bin) := rfl
def gX (t : Nat → Nat) (n M I : Nat) (L : List Nat) (bin : Bool) (d q : Nat) (G : List gt) : rE ⊕ (List gt × Nat) := cond bin (rb t n I d q G) (rg t n M L d q G)
theorem f_reads {h : sx_H} {n : Nat} {t : Nat → Nat} {f : Int32 → sx_H → Prop} (hm : mt h n t)
    (H0 : ∀ e, ldR t n (.inl e) → 0 < e.1 → e.1 < 2 ^ 31 → ∀ h', bX h h' e → f (nI e.1) h')
    (H1 : ∀ r : rC, ldR t n (.inr r) → ∀ h', bX h h' (0, 0) → rN h' r.1.1 r.1.2.1 r.1.2.2.1 r.1.2.2.2 r.2.1 r.2.2.1 r.2.2.2 → f 0 h') :
    sx_X sx_w 87 0 [some (.ref 40), none, none, none, none, none] [] h (sx_qi f) := by
  have hn := hm.2.1
  have err : ∀ (e : rE) (h1 : sx_H), rd t n = .inl e → 0 < e.1 → e.1 < 2 ^ 31 → kF h h1 → sx_X sx_w 81 0 [some (.ref 40), some (.int (nI e.1)), some (.int (nI e.2))] [] h1 (sx_qi fun x h' => sx_qi f (some (.int x)) h') := fun e h1 he hp hl k1 => f_tX k1 (fun h' b' _ _ => H0 e (Or.inl he) hp hl h' b')
  have k578 : ∀ (M I O A : Nat) (L OU : List Nat) (G : List gt) (h0 : sx_H) (i1 i2 i3 i4 : Int32) (o : Option Value), kF h h0 → rN h0 M I O A L OU G → rd t n = .inr ((M, I, O, A), L, OU, G) → sx_X sx_w 87 578 [some (.ref 40), some (.int i1), some (.int i2), some (.int i3), some (.int i4), o] [] h0 (sx_qi f) := by
    intro M I O A L OU G h0 i1 i2 i3 i4 o k0 rn hrd
    have w := rd_wf hrd
    have ms := mis_mOK w
    refine g_87_578 h0 40 _ _ _ _ o ⟨rfl, f_tells k0 rn w (fun h7 h' b' => ?_) (fun u h7 hu h' b' => ?_) (fun h7 hno h' b' rn' => H1 ((M, I, O, A), L, OU, G) ⟨hrd, h7, hno⟩ h' b' rn')⟩
    · exact H0 (7, mis L OU G) (Or.inr (Or.inl ⟨_, hrd, h7, rfl⟩)) (by show 0 < 7; decide) (by show 7 < _; decide) h' b'
    · exact H0 (8, u) (Or.inr (Or.inr ⟨_, u, hrd, h7, hu, rfl⟩)) (by show 0 < 8; decide) (by show 8 < _; decide) h' b'
  have k475 : ∀ (M I O A : Nat) (L OU : List Nat) (bin : Bool), M ≤ 1000 → I ≤ 14 → A ≤ 300 → (bin = true → L = bI I) → ∀ (d : Nat) (G : List gt) (q : Nat) (h0 : sx_H) (i1 i3 : Int32) (o : Option Value), G.length + d = A → q ≤ n → kF h h0 → h0.1 40 30 = nI q → rN h0 M I O A L OU G → rd t n = bnd (gX t n M I L bin d q G) (KG t n M I O A L OU) →
      sx_X sx_w 87 475 [some (.ref 40), some (.int i1), some (.int (if bin then 0 else 1)), some (.int i3), some (.int (nI G.length)), o] [] h0 (sx_qi f) := by
    intro M I O A L OU bin hM hI hA hbL d
    induction d with
    | zero =>
      intro G q h0 i1 i3 o hl hq k0 h30 rn hrd
      have hm0 := k0.mt hm
      have e0 : gX t n M I L bin 0 q G = .inr (G, q) := by cases bin <;> rfl
      rw [e0, bnd_r] at hrd
      unfold KG at hrd
      refine g_87_475 h0 40 _ _ _ _ o ⟨rfl, ?_⟩
      rw [rn.1.2.2.1]
      refine pk_le A G.length (fun _ => ⟨rfl, rfl, ?_⟩) (fun z => (by omega))
      rw [hm0.1, h30]
      refine pk_le n q (fun z => ?_) (fun z => ⟨rfl, ?_⟩)
      · refine k578 M I O A L OU G h0 _ _ _ _ o k0 rn ?_
        rw [hrd]
        unfold rnd
        rw [if_neg (by omega), bnd_r]
      · have hr : rnd t n q = if hd t n q = 99 then if hd t n (q + 1) = 10 then .inr () else .inl (5, q + 1) else .inl (5, q) := by unfold rnd; rw [if_pos z]
        refine f_here rfl hm0 h30 (by omega) ⟨fun y => ⟨rfl, ⟨rfl, rfl⟩, rfl, ?_⟩, fun y => ⟨rfl, rfl, ?_⟩⟩
        · rw [if_pos y] at hr
          have g1 : gq r40 h0 (sx_u h0.1 40 30 (nI q + 1), h0.2.1, h0.2.2) (q + 1) := ⟨kp_hw (S := r40) rfl, by dsimp only; rw [sx_u_eq, va_up_self, nI_1], fun k hk => by dsimp only; rw [sx_u_eq, va_up_ne _ _ hk]⟩
          have k1 := k0.tr (g1.mo r40_R).kF
          rw [h30]
          refine f_here rfl (k1.mt hm) g1.2.1 (by omega) ⟨fun y2 => ?_, fun y2 => ⟨rfl, rfl, ?_⟩⟩
          · refine k578 M I O A L OU G _ _ _ _ _ o k1 (rn.kp (g1.mo r40_Ln)) ?_
            rw [hrd, hr, if_pos y2, bnd_r]
          · rw [g1.2.1]
            exact err (5, q + 1) _ (by rw [hrd, hr, if_neg y2, bnd_l]) (by show 0 < 5; decide) (by show 5 < _; decide) k1
        · rw [h30]
          exact err (5, q) h0 (by rw [hrd, hr, if_neg y, bnd_l]) (by show 0 < 5; decide) (by show 5 < _; decide) k0
    | succ d ih =>
      intro G q h0 i1 i3 o hl hq k0 h30 rn hrd
      have hm0 := k0.mt hm
      refine g_87_475 h0 40 _ _ _ _ o ⟨rfl, ?_⟩
      rw [rn.1.2.2.1]
      refine pk_le A G.length (fun z => (by omega)) (fun _ => ?_)
      cases bin with
      | true =>
        refine ⟨fun _ => ⟨rfl, ?_⟩, fun z => absurd rfl z⟩
        have hLL := hbL rfl
        have es : gX t n M I L true (d + 1) q G = bnd (rb1 t n (2 * (I + 1 + G.length)) q) fun r => gX t n M I L true d r.2 (G ++ [r.1]) := rfl
        refine f_bytes hm0 h30 hq rn hI (by omega) (fun a ha => ?_) (fun r er hr1 h1 g1 r1 => g_87_505 h1 40 _ _ _ _ _ ⟨fun _ => ?_, fun z => absurd (by decide) z⟩) (fun x ex hx0 hx1 h1 b1 => g_87_505 h1 40 _ _ _ _ _ ⟨fun z => absurd z (nI_nle hx0 hx1), fun _ => H0 x (Or.inl ?_) hx0 hx1 h1 (k0.bX b1)⟩)
        · rw [hLL] at ha
          obtain ⟨j, j1, j2⟩ := bI_mem ha
          omega
        · rw [nI_1]
          have := ih (G ++ [r.1]) r.2 h1 i1 i3 (some (.int 0)) (by rw [len1]; omega) hr1 (k0.tr g1.kF) g1.2.1 r1 (by rw [hrd, es, er, bnd_r])
          rw [len1] at this
          exact this
        · rw [hrd, es, ex, bnd_l, bnd_l]
      | false =>
        refine ⟨fun z => absurd z (by decide), fun _ => ⟨rfl, ?_⟩⟩
        have es : gX t n M I L false (d + 1) q G = bnd (rg1 t n M L G q) fun r => gX t n M I L false d r.2 (G ++ [r.1]) := rg_s
        refine f_gate hm0 h30 hq rn hM (by omega) (fun r er hr1 h1 g1 r1 => g_87_505 h1 40 _ _ _ _ _ ⟨fun _ => ?_, fun z => absurd (by decide) z⟩) (fun x ex hx0 hx1 h1 b1 => g_87_505 h1 40 _ _ _ _ _ ⟨fun z => absurd z (nI_nle hx0 hx1), fun _ => H0 x (Or.inl ?_) hx0 hx1 h1 (k0.bX b1)⟩)
        · rw [nI_1]
          have := ih (G ++ [r.1]) r.2 h1 i1 i3 (some (.int 0)) (by rw [len1]; omega) hr1 (k0.tr g1.kF) g1.2.1 r1 (by rw [hrd, es, er, bnd_r])
          rw [len1] at this
          exact this
        · rw [hrd, es, ex, bnd_l, bnd_l]
  have k400 : ∀ (M I O A : Nat) (L : List Nat) (bin : Bool), M ≤ 1000 → I ≤ 14 → O ≤ 16 → A ≤ 300 → (bin = true → L = bI I) → ∀ (d : Nat) (OU : List Nat) (q : Nat) (h0 : sx_H) (i1 i3 : Int32) (o : Option Value), OU.length + d = O → q ≤ n → kF h h0 → h0.1 40 30 = nI q → rN h0 M I O A L OU [] → rd t n = bnd (ro t n M d q OU) (KO t n M I O A L bin) →
      sx_X sx_w 87 400 [some (.ref 40), some (.int i1), some (.int (if bin then 0 else 1)), some (.int i3), some (.int (nI OU.length)), o] [] h0 (sx_qi f) := by
    intro M I O A L bin hM hI hO hA hbL d
    induction d with
    | zero =>
      intro OU q h0 i1 i3 o hl hq k0 h30 rn hrd
      refine g_87_400 h0 40 _ _ _ _ o ⟨rfl, ?_⟩
      rw [rn.1.2.2.2]
      exact pk_le O OU.length (fun _ => k475 M I O A L OU bin hM hI hA hbL A [] q h0 _ _ o (by simp) hq k0 h30 rn hrd) (fun z => (by omega))
    | succ d ih =>
      intro OU q h0 i1 i3 o hl hq k0 h30 rn hrd
      have hm0 := k0.mt hm
      refine g_87_400 h0 40 _ _ _ _ o ⟨rfl, ?_⟩
      rw [rn.1.2.2.2]
      refine pk_le O OU.length (fun z => (by omega)) (fun _ => ⟨rfl, f_ln (cnt := 1) (e := 5) (by decide) hm0 h30 hq (fun r er hq1 hq2 hv h1 g1 hn' => ⟨fun _ => ?_, fun y => absurd y (by decide)⟩) (fun e eq h1 g1 => ⟨fun y => absurd rfl y, fun _ => ⟨rfl, rfl, ?_⟩⟩)⟩)
      · have v0 := hv 0 (by decide)
        have r1 := rn.kp g1
        have k1 := k0.tr (g1.mo rLn_R).kF
        have s0 : h1.1 (40 + 18) (Int32.toNatClampNeg 0) = nI (gv r.1 0) := (hn' 0 (by decide)).1
        have b0 : h1.1 (40 + 19) (Int32.toNatClampNeg 0) = nI (gs r.1 0) := (hn' 0 (by decide)).2
        have vp0 : (sx_w.1 (40 + 18)).1 = 1 ∧ vp_in 0 (sx_w.1 (40 + 18)).2 := ⟨rfl, vp_in_nI (n := 0) (N := 5) (by decide) (by decide)⟩
        have hrd2 : rd t n = bnd (if gv r.1 0 ≤ 2 * M + 1 then ro t n M d r.2 (OU ++ [gv r.1 0]) else .inl (6, gs r.1 0)) (KO t n M I O A L bin) := by
          rw [hrd]; show bnd (bnd (rlE t n 5 1 q) _) _ = _; rw [er, bnd_r]
        refine ⟨rfl, vp0, rfl, ?_⟩
        rw [s0]
        refine f_may rfl r1.1.1 hM (by omega) (fun z => ⟨fun _ => ⟨rfl, rfl, vp0, ⟨rfl, rfl, vp_in_nI (N := 16) (by omega) (by decide)⟩, ?_⟩, fun y => absurd y (by decide)⟩) (fun z => ⟨fun y => absurd rfl y, fun _ => ⟨rfl, ⟨rfl, vp_in_nI (n := 0) (N := 5) (by decide) (by decide)⟩, rfl, ?_⟩⟩)
        · rw [if_pos z] at hrd2
          rw [s0, nI_clamp (by omega), nI_1]
          have g2 : gq rR h1 (sx_u h1.1 50 OU.length (nI (gv r.1 0)), h1.2.1, h1.2.2) r.2 := ⟨kp_hw (S := rR) (a := 50) (Or.inr (Or.inl (by decide))), by dsimp only; rw [sx_u_ne (by decide)]; exact g1.2.1, fun k hk => by dsimp only; rw [sx_u_ne (by decide)]⟩
          have := ih (OU ++ [gv r.1 0]) r.2 (sx_u h1.1 50 OU.length (nI (gv r.1 0)), h1.2.1, h1.2.2) i1 i3 o (by rw [len1]; omega) hq2 (k1.tr g2.kF) g2.2.1 ?_ hrd2
          · rw [len1] at this
            exact this
          · obtain ⟨x0, x1, x2, x3, x4⟩ := r1
            refine ⟨?_, ?_, fun i x hi => ?_, fun k g hg => (by cases hg), ?_⟩
            · dsimp only
              rw [sx_u_ne (by decide)]; exact x0
            · dsimp only
              rw [sx_u_ne (by decide)]; exact x1
            · dsimp only
              rw [sx_u_eq]
              rcases get_app hi with ⟨z1, z2⟩ | ⟨z1, z2⟩
              · rw [va_up_ne _ _ (by omega)]; exact x2 i x z2
              · rw [z1, z2, va_up_self]
            · dsimp only
              rw [sx_u_ne (by decide)]; exact x4
        · rw [if_neg z, bnd_l] at hrd2
          rw [b0]
          exact err (6, gs r.1 0) h1 hrd2 (by show 0 < 6; decide) (by show 6 < _; decide) k1
      · rw [g1.2.1]
        exact err (5, e) h1 (by rw [hrd]; show bnd (bnd (rlE t n 5 1 q) _) _ = _; rw [eq, bnd_l, bnd_l]) (by show 0 < 5; decide) (by show 5 < _; decide) (k0.tr (g1.mo rLn_R).kF)
  -- an input is laid
  have lay : ∀ (M I O A x : Nat) (L : List Nat) (h1 : sx_H), rN h1 M I O A L [] [] → L.length < 14 → tkL M L [] x → M ≤ 1000 → gq rR h1 (sx_u (sx_u h1.1 49 L.length (nI x)) 54 (x / 2) 1, h1.2.1, h1.2.2) (h1.1 40 30).toInt.toNat ∨ True → rN (sx_u (sx_u h1.1 49 L.length (nI x)) 54 (x / 2) 1, h1.2.1, h1.2.2) M I O A (L ++ [x]) [] [] := by
    intro M I O A x L h1 r1 hl hx hM _
    obtain ⟨x0, x1, x2, x3, x4⟩ := r1
    refine ⟨?_, fun i y hi => ?_, fun i y hi => (by cases hi), fun k g hg => (by cases hg), fun v hv => ?_⟩
    · dsimp only
      rw [sx_u_ne (by decide), sx_u_ne (by decide)]; exact x0
    · dsimp only
      rw [sx_u_ne (by decide), sx_u_eq]
      rcases get_app hi with ⟨z1, z2⟩ | ⟨z1, z2⟩
      · rw [va_up_ne _ _ (by omega)]; exact x1 i y z2
      · rw [z1, z2, va_up_self]
    · dsimp only
      have := hx.2.1
      rw [sx_u_eq, sx_u_ne (by decide), kdv_inp hx.2.2.2 (by omega)]
      by_cases e : v = x / 2
      · rw [e, va_up_self, if_pos rfl]; rfl
      · rw [va_up_ne _ _ e, if_neg e]; exact x4 v hv
  have layq : ∀ (x k q : Nat) (h1 : sx_H), h1.1 40 30 = nI q → gq rR h1 (sx_u (sx_u h1.1 49 k (nI x)) 54 (x / 2) 1, h1.2.1, h1.2.2) q := fun x k q h1 e => ⟨(kp_hw (S := rR) (a := 49) (Or.inr (Or.inl (by decide)))).tr (kp_hw (S := rR) (a := 54) (Or.inr (Or.inl (by decide)))), by dsimp only; rw [sx_u_ne (by decide), sx_u_ne (by decide)]; exact e, fun k hk => by dsimp only; rw [sx_u_ne (by decide), sx_u_ne (by decide)]⟩
  have k298d : ∀ (M I O A : Nat), M ≤ 1000 → I ≤ 14 → O ≤ 16 → A ≤ 300 → ∀ (d : Nat) (L : List Nat) (q : Nat) (h0 : sx_H) (i1 i3 : Int32) (o : Option Value), L.length + d = I → q ≤ n → kF h h0 → h0.1 40 30 = nI q → rN h0 M I O A L [] [] → rd t n = bnd (ri t n M d q L) (KI t n M I O A false) →
      sx_X sx_w 87 298 [some (.ref 40), some (.int i1), some (.int 1), some (.int i3), some (.int (nI L.length)), o] [] h0 (sx_qi f) := by
    intro M I O A hM hI hO hA d
    induction d with
    | zero =>
      intro L q h0 i1 i3 o hl hq k0 h30 rn hrd
      refine g_87_298 h0 40 _ _ _ _ o ⟨rfl, ?_⟩
      rw [rn.1.2.1]
      exact pk_le I L.length (fun _ => k400 M I O A L false hM hI hO hA (fun q => by cases q) O [] q h0 _ _ o (by simp) hq k0 h30 rn hrd) (fun z => (by omega))
    | succ d ih =>
      intro L q h0 i1 i3 o hl hq k0 h30 rn hrd
      have hm0 := k0.mt hm
      refine g_87_298 h0 40 _ _ _ _ o ⟨rfl, ?_⟩
      rw [rn.1.2.1]
      refine pk_le I L.length (fun z => (by omega)) (fun _ => ⟨fun z => absurd z (by decide), fun _ => ⟨rfl, f_ln (cnt := 1) (e := 5) (by decide) hm0 h30 hq (fun r er hq1 hq2 hv h1 g1 hn' => ⟨fun _ => ?_, fun y => absurd y (by decide)⟩) (fun e eq h1 g1 => ⟨fun y => absurd rfl y, fun _ => ⟨rfl, rfl, ?_⟩⟩)⟩⟩)
      · have v0 := hv 0 (by decide)
        have r1 := rn.kp g1
        have k1 := k0.tr (g1.mo rLn_R).kF
        have s0 : h1.1 (40 + 18) (Int32.toNatClampNeg 0) = nI (gv r.1 0) := (hn' 0 (by decide)).1
        have b0 : h1.1 (40 + 19) (Int32.toNatClampNeg 0) = nI (gs r.1 0) := (hn' 0 (by decide)).2
        have hrd2 : rd t n = bnd (if tkL M L [] (gv r.1 0) then ri t n M d r.2 (L ++ [gv r.1 0]) else .inl (6, gs r.1 0)) (KI t n M I O A false) := by
          rw [hrd]; show bnd (bnd (rlE t n 5 1 q) _) _ = _; rw [er, bnd_r]
        refine g_87_329 h1 40 _ _ _ _ o ⟨fun z => absurd z (by decide), fun _ => ⟨rfl, ⟨rfl, vp_in_nI (n := 0) (N := 5) (by decide) (by decide)⟩, ?_⟩⟩
        rw [s0]
        refine g_87_350 h1 40 _ _ _ _ _ ⟨rfl, f_mayBegin rfl r1 hM (by omega) (fun z => ⟨fun _ => ⟨rfl, ⟨rfl, rfl, vp_in_nI (N := 14) (by omega) (by decide)⟩, rfl, by decide, ?_⟩, fun y => absurd y (by decide)⟩) (fun z => ⟨fun y => absurd rfl y, fun _ => ⟨rfl, ⟨rfl, vp_in_nI (n := 0) (N := 5) (by decide) (by decide)⟩, rfl, ?_⟩⟩)⟩
        · rw [if_pos z] at hrd2
          have z1 := z.1
          rw [half_nI (by omega)]
          refine ⟨⟨rfl, rfl, vp_in_nI (N := 1001) (by omega) (by decide)⟩, ?_⟩
          rw [nI_clamp (by omega), nI_clamp (by omega), nI_1]
          have g2 := layq (gv r.1 0) L.length r.2 h1 g1.2.1
          have := ih (L ++ [gv r.1 0]) r.2 (sx_u (sx_u h1.1 49 L.length (nI (gv r.1 0))) 54 (gv r.1 0 / 2) 1, h1.2.1, h1.2.2) i1 i3 (some (.int (nI (gv r.1 0)))) (by rw [len1]; omega) hq2 (k1.tr g2.kF) g2.2.1 (lay M I O A (gv r.1 0) L h1 r1 (by omega) z hM (Or.inr trivial)) hrd2
          rw [len1] at this
          exact this
        · rw [if_neg z, bnd_l] at hrd2
          rw [b0]
          exact err (6, gs r.1 0) h1 hrd2 (by show 0 < 6; decide) (by show 6 < _; decide) k1
      · rw [g1.2.1]
        exact err (5, e) h1 (by rw [hrd]; show bnd (bnd (rlE t n 5 1 q) _) _ = _; rw [eq, bnd_l, bnd_l]) (by show 0 < 5; decide) (by show 5 < _; decide) (k0.tr (g1.mo rLn_R).kF)
  have k298b : ∀ (M I O A : Nat), M ≤ 1000 → I ≤ M → I ≤ 14 → O ≤ 16 → A ≤ 300 → ∀ (d k q : Nat) (h0 : sx_H) (i1 i3 : Int32) (o : Option Value), k + d = I → q ≤ n → kF h h0 → h0.1 40 30 = nI q → rN h0 M I O A (bI k) [] [] → rd t n = KI t n M I O A true (bI I, q) →
      sx_X sx_w 87 298 [some (.ref 40), some (.int i1), some (.int 0), some (.int i3), some (.int (nI k)), o] [] h0 (sx_qi f) := by
    intro M I O A hM hIM hI hO hA d
    induction d with
    | zero =>
      intro k q h0 i1 i3 o hl hq k0 h30 rn hrd
      have hk : k = I := by omega
      subst hk
      refine g_87_298 h0 40 _ _ _ _ o ⟨rfl, ?_⟩
      rw [rn.1.2.1]
      exact pk_le k k (fun _ => k400 M k O A (bI k) true hM hI hO hA (fun _ => rfl) O [] q h0 _ _ o (by simp) hq k0 h30 rn hrd) (fun z => (by omega))
    | succ d ih =>
      intro k q h0 i1 i3 o hl hq k0 h30 rn hrd
      refine g_87_298 h0 40 _ _ _ _ o ⟨rfl, ?_⟩
      rw [rn.1.2.1]
      refine pk_le I k (fun z => (by omega)) (fun _ => ⟨fun _ => g_87_329 h0 40 _ _ _ _ o ⟨fun _ => ?_, fun z => absurd rfl z⟩, fun z => absurd rfl z⟩)
      have elit : (2 : Int32) * nI k + 2 = nI (2 * (k + 1)) := by rw [show (2 : Int32) * nI k = nI (2 * k) from pk_mul 2 k, show nI (2 * k) + 2 = nI (2 * k + 2) from nI_add _ 2, show 2 * k + 2 = 2 * (k + 1) by omega]
      rw [elit]
      have htk : tkL M (bI k) [] (2 * (k + 1)) := ⟨by omega, by omega, by omega, fun x hx => (by obtain ⟨j, h1, h2⟩ := bI_mem hx; omega), fun x hx => (by cases hx)⟩
      refine g_87_350 h0 40 _ _ _ _ _ ⟨rfl, f_mayBegin rfl rn hM (by omega) (fun z => ⟨fun _ => ⟨rfl, ⟨rfl, rfl, vp_in_nI (N := 14) (by omega) (by decide)⟩, rfl, by decide, ?_⟩, fun y => absurd y (by decide)⟩) (fun z => absurd htk z)⟩
      rw [half_nI (by omega)]
      refine ⟨⟨rfl, rfl, vp_in_nI (N := 1001) (by omega) (by decide)⟩, ?_⟩
      rw [nI_clamp (by omega), nI_clamp (by omega), nI_1]
      have g2 := layq (2 * (k + 1)) k q h0 h30
      have l2 := lay M I O A (2 * (k + 1)) (bI k) h0 rn (by rw [bI_len]; omega) htk hM (Or.inr trivial)
      rw [bI_len] at l2
      exact ih (k + 1) q _ i1 i3 _ (by omega) hq (k0.tr g2.kF) g2.2.1 l2 hrd
  have k264 : ∀ (e v : Nat) (h0 : sx_H) (i1 i2 i3 : Int32) (M I O A q : Nat), v + e = 1001 → kF h h0 → h0.1 40 30 = nI q → (h0.1 40 17 = nI M ∧ h0.1 40 18 = nI I ∧ h0.1 40 19 = nI A ∧ h0.1 40 20 = nI O) → (∀ u, u < v → h0.1 54 u = nI (kdv [] [] u)) →
      (∀ h1, kF h h1 → h1.1 40 30 = nI q → rN h1 M I O A [] [] [] → sx_X sx_w 87 298 [some (.ref 40), some (.int i1), some (.int i2), some (.int i3), some (.int 0), none] [] h1 (sx_qi f)) →
      sx_X sx_w 87 264 [some (.ref 40), some (.int i1), some (.int i2), some (.int i3), some (.int (nI v)), none] [] h0 (sx_qi f) := by
    intro e
    induction e with
    | zero =>
      intro v h0 i1 i2 i3 M I O A q hv k0 h30 hf hz K
      refine g_87_264 h0 40 _ _ _ _ (pk_le 1001 v (fun _ => K h0 k0 h30 ⟨hf, fun i x hi => (by cases hi), fun i x hi => (by cases hi), fun k g hg => (by cases hg), fun u hu => hz u (by omega)⟩) (fun z => (by omega)))
    | succ e ih =>
      intro v h0 i1 i2 i3 M I O A q hv k0 h30 hf hz K
      have vin : vp_in (nI v) 1001 := vp_in_nI (by omega) (by decide)
      have go : ∀ x : Int32, x = nI (kdv [] [] v) → sx_X sx_w 87 264 [some (.ref 40), some (.int i1), some (.int i2), some (.int i3), some (.int (nI v + 1)), none] [] (sx_u h0.1 (40 + 14) (Int32.toNatClampNeg (nI v)) x, h0.2.1, h0.2.2) (sx_qi f) := fun x ex => by
        rw [nI_clamp (by omega), nI_1]
        have x40 : sx_u h0.1 54 v x 40 = h0.1 40 := sx_u_ne (by decide)
        refine ih (v + 1) _ i1 i2 i3 M I O A q (by omega) (k0.tr ⟨kp_hw (S := rX) (a := 54) (Or.inr (Or.inl (by decide))), fun k _ => congrFun x40 k⟩) (by show sx_u h0.1 54 v x 40 30 = _; rw [x40]; exact h30) (by show sx_u h0.1 54 v x 40 17 = _ ∧ sx_u h0.1 54 v x 40 18 = _ ∧ sx_u h0.1 54 v x 40 19 = _ ∧ sx_u h0.1 54 v x 40 20 = _; rw [x40]; exact hf) (fun u hu => ?_) K
        show sx_u h0.1 54 v x 54 u = _
        rw [sx_u_eq]
        by_cases q : u = v
        · rw [q, va_up_self, ex]
        · rw [va_up_ne _ _ q]; exact hz u (by omega)
      refine g_87_264 h0 40 _ _ _ _ (pk_le 1001 v (fun z => (by omega)) (fun _ => ⟨rfl, pk_en (y := 0) v 0 (fun z => ⟨⟨rfl, rfl, vin⟩, go 0 ?_⟩) (fun z => ⟨⟨rfl, rfl, vin⟩, go 3 ?_⟩)⟩))
      · unfold kdv
        rw [if_neg z, if_pos (fun x hx => by cases hx), if_pos (fun x hx => by cases hx)]
        rfl
      · unfold kdv
        rw [if_pos z]
        rfl
  have k221 : ∀ (bin : Bool) (M I O A q : Nat) (h0 : sx_H) (i1 : Int32), M ≤ 1000 → I ≤ 14 → O ≤ 16 → A ≤ 300 → q ≤ n → kF h h0 → h0.1 40 30 = nI q → (h0.1 40 17 = nI M ∧ h0.1 40 18 = nI I ∧ h0.1 40 19 = nI A ∧ h0.1 40 20 = nI O) →
      rd t n = bnd (if szOK M I O A bin then .inr ((M, I, O, A), q) else .inl (4, 0)) (fun s => rBody t n s.1.1 s.1.2.1 s.1.2.2.1 s.1.2.2.2 s.2 bin) →
      sx_X sx_w 87 221 [some (.ref 40), some (.int i1), some (.int (if bin then 0 else 1)), none, none, none] [] h0 (sx_qi f) := by
    intro bin M I O A q h0 i1 hM hI hO hA hq k0 h30 hf hrd
    have bad4 : ¬ szOK M I O A bin → sx_X sx_w 81 0 [some (.ref 40), some (.int 4), some (.int 0)] [] h0 (sx_qi fun x h' => sx_qi f (some (.int x)) h') := fun z => err (4, 0) h0 (by rw [hrd, if_neg z, bnd_l]) (by show 0 < 4; decide) (by show 4 < _; decide) k0
    have z264 : ∀ (h0 : sx_H) (i1 i2 i3 : Int32) (q : Nat), kF h h0 → h0.1 40 30 = nI q → (h0.1 40 17 = nI M ∧ h0.1 40 18 = nI I ∧ h0.1 40 19 = nI A ∧ h0.1 40 20 = nI O) → (∀ h1, kF h h1 → h1.1 40 30 = nI q → rN h1 M I O A [] [] [] → sx_X sx_w 87 298 [some (.ref 40), some (.int i1), some (.int i2), some (.int i3), some (.int 0), none] [] h1 (sx_qi f)) → sx_X sx_w 87 261 [some (.ref 40), some (.int i1), some (.int i2), some (.int i3), none, none] [] h0 (sx_qi f) := fun h0 i1 i2 i3 q k0 h30 hf K =>
      g_87_261 h0 40 _ _ _ (k264 1001 0 h0 i1 i2 i3 M I O A q rfl k0 h30 hf (fun u hu => absurd hu (Nat.not_lt_zero _)) K)
    refine g_87_221 h0 40 _ _ ⟨rfl, rfl, ?_⟩
    rw [hf.1, hf.2.1, hf.2.2.1, nI_add]
    cases bin with
    | true =>
      refine ⟨fun _ => ⟨rfl, pk_eq M (I + A) (fun z => ?_) (fun z => ⟨rfl, bad4 (fun q => z (q.2.2.2.2.2 rfl))⟩)⟩, fun z => absurd rfl z⟩
      rw [if_pos ⟨hM, hI, hO, hA, by omega, fun _ => z⟩, bnd_r] at hrd
      exact z264 h0 _ _ _ q k0 h30 hf (fun h1 k1 e1 r1 => k298b M I O A hM (by omega) hI hO hA I 0 q h1 _ _ none (by omega) hq k1 e1 r1 hrd)
    | false =>
      refine ⟨fun z => absurd z (by decide), fun _ => ⟨rfl, pk_le (I + A) M (fun z => ?_) (fun z => ⟨rfl, bad4 (fun q => by have := q.2.2.2.2.1; omega)⟩)⟩⟩
      rw [if_pos ⟨hM, hI, hO, hA, by omega, fun q => by cases q⟩, bnd_r] at hrd
      exact z264 h0 _ _ _ q k0 h30 hf (fun h1 k1 e1 r1 => k298d M I O A hM hI hO hA I [] q h1 _ _ none (by simp) hq k1 e1 r1 hrd)
  have k97 : ∀ (bin : Bool) (i1 : Int32), ltr t n → rd t n = bnd (rFst t n bin) (fun s => rBody t n s.1.1 s.1.2.1 s.1.2.2.1 s.1.2.2.2 s.2 bin) → sx_X sx_w 87 97 [some (.ref 40), some (.int i1), some (.int (if bin then 0 else 1)), none, none, none] [] h (sx_qi f) := by
    intro bin i1 hl hrd
    have g0 : gq r40 h (sx_u h.1 40 30 4, h.2.1, h.2.2) 4 := ⟨kp_hw (S := r40) rfl, by dsimp only; rw [sx_u_eq, va_up_self]; rfl, fun k hk => by dsimp only; rw [sx_u_eq, va_up_ne _ _ hk]⟩
    refine g_87_97 h 40 _ _ ⟨⟨rfl, rfl⟩, rfl, f_ln (cnt := 5) (e := 2) (by decide) (g0.mt hm (by unfold r40; decide)) g0.2.1 (by omega) (fun r er hq1 hq2 hv h1 g1 hn' => ⟨fun _ => ?_, fun y => absurd y (by decide)⟩) (fun e eq h1 g1 => ⟨fun y => absurd rfl y, fun _ => ⟨rfl, rfl, ?_⟩⟩)⟩
    · have k1 : kF h h1 := (g0.mo r40_R).kF.tr (g1.mo rLn_R).kF
      have v0 := hv 0 (by decide)
      have v1 := hv 1 (by decide)
      have v2 := hv 2 (by decide)
      have v3 := hv 3 (by decide)
      have v4 := hv 4 (by decide)
      have s0 : h1.1 (40 + 18) (Int32.toNatClampNeg 0) = nI (gv r.1 0) := (hn' 0 (by decide)).1
      have s1' : h1.1 (40 + 18) (Int32.toNatClampNeg 1) = nI (gv r.1 1) := (hn' 1 (by decide)).1
      have s2 : h1.1 (40 + 18) (Int32.toNatClampNeg 2) = nI (gv r.1 2) := (hn' 2 (by decide)).1
      have s3 : h1.1 (40 + 18) (Int32.toNatClampNeg 3) = nI (gv r.1 3) := (hn' 3 (by decide)).1
      have s4 : h1.1 (40 + 18) (Int32.toNatClampNeg 4) = nI (gv r.1 4) := (hn' 4 (by decide)).1
      have vp : ∀ k : Nat, k < 5 → (sx_w.1 (40 + 18)).1 = 1 ∧ vp_in (nI k) (sx_w.1 (40 + 18)).2 := fun k hk => ⟨rfl, vp_in_nI (N := 5) hk (by decide)⟩
      have hrd2 : rd t n = bnd (if gv r.1 2 = 0 then if szOK (gv r.1 0) (gv r.1 1) (gv r.1 3) (gv r.1 4) bin then .inr ((gv r.1 0, gv r.1 1, gv r.1 3, gv r.1 4), r.2) else .inl (4, 0) else .inl (3, 0)) (fun s => rBody t n s.1.1 s.1.2.1 s.1.2.2.1 s.1.2.2.2 s.2 bin) := by
        rw [hrd]; unfold rFst; rw [er, bnd_r]
      have h30 := g1.2.1
      revert s0 s1' s2 s3 s4 v0 v1 v2 v3 v4 hrd2
      generalize gv r.1 0 = M
      generalize gv r.1 1 = I
      generalize gv r.1 2 = Z
      generalize gv r.1 3 = O
      generalize gv r.1 4 = A
      intro v0 v1 v2 v3 v4 s0 s1' s2 s3 s4 hrd2
      refine g_87_120 h1 40 _ _ ⟨rfl, vp 2 (by decide), ?_⟩
      rw [s2]
      refine pk_le (y := 0) Z 0 (fun z => ?_) (fun z => ⟨rfl, err (3, 0) h1 (by rw [hrd2, if_neg (by omega), bnd_l]) (by show 0 < 3; decide) (by show 3 < _; decide) k1⟩)
      rw [if_pos (by omega)] at hrd2
      have hx : ∀ (k : Nat) (v : Int32) (F : Nat → Nat → Int32), sx_u F 40 k v (40 + 18) = F (40 + 18) := fun k v F => sx_u_ne (by decide)
      refine g_87_136 h1 40 _ _ ?_
      simp only [hx]
      rw [s0, s1', s3, s4]
      generalize eA : sx_u (sx_u (sx_u (sx_u h1.1 40 17 (nI M)) 40 18 (nI I)) 40 20 (nI O)) 40 19 (nI A) = H2
      have a40 : ∀ k, H2 40 k = va_up (va_up (va_up (va_up (h1.1 40) 17 (nI M)) 18 (nI I)) 20 (nI O)) 19 (nI A) k := fun k => by rw [← eA, sx_u_eq, sx_u_eq, sx_u_eq, sx_u_eq]
      have f17 : H2 40 17 = nI M := by rw [a40, va_up_ne _ _ (by decide), va_up_ne _ _ (by decide), va_up_ne _ _ (by decide), va_up_self]
      have f18 : H2 40 18 = nI I := by rw [a40, va_up_ne _ _ (by decide), va_up_ne _ _ (by decide), va_up_self]
      have f20 : H2 40 20 = nI O := by rw [a40, va_up_ne _ _ (by decide), va_up_self]
      have f19 : H2 40 19 = nI A := by rw [a40, va_up_self]
      have fo : ∀ k, k < 17 ∨ 20 < k → H2 40 k = h1.1 40 k := fun k hk => by rw [a40, va_up_ne _ _ (by omega), va_up_ne _ _ (by omega), va_up_ne _ _ (by omega), va_up_ne _ _ (by omega)]
      have kA : kF h (H2, h1.2.1, h1.2.2) := k1.tr ⟨⟨fun b hb => ⟨by show H2 b = _; rw [← eA, sx_u_ne (fun e => hb (Or.inl e)), sx_u_ne (fun e => hb (Or.inl e)), sx_u_ne (fun e => hb (Or.inl e)), sx_u_ne (fun e => hb (Or.inl e))], rfl⟩, rfl⟩, fun k hk => fo k (by unfold fk at hk; omega)⟩
      have bad4 : ¬ szOK M I O A bin → sx_X sx_w 81 0 [some (.ref 40), some (.int 4), some (.int 0)] [] (H2, h1.2.1, h1.2.2) (sx_qi fun x h' => sx_qi f (some (.int x)) h') := fun z => err (4, 0) (H2, h1.2.1, h1.2.2) (by rw [hrd2, if_neg z, bnd_l]) (by show 0 < 4; decide) (by show 4 < _; decide) kA
      rw [f17, f18, f19, f20]
      refine ⟨rfl, vp 0 (by decide), ⟨trivial, rfl⟩, rfl, vp 1 (by decide), ⟨trivial, rfl⟩, rfl, vp 3 (by decide), ⟨trivial, rfl⟩, rfl, vp 4 (by decide), ⟨trivial, rfl⟩, rfl, pk_lt 1000 M (fun y => ⟨rfl, bad4 (by omega)⟩) (fun y => ⟨rfl, pk_lt 14 I (fun y1 => ⟨rfl, bad4 (by omega)⟩) (fun y1 => ⟨rfl, pk_lt 16 O (fun y2 => ⟨rfl, bad4 (by omega)⟩) (fun y2 => ⟨rfl, pk_le A 300 (fun y3 => ?_) (fun y3 => ⟨rfl, bad4 (by omega)⟩)⟩)⟩)⟩)⟩
      exact k221 bin M I O A r.2 (H2, h1.2.1, h1.2.2) _ (by omega) (by omega) (by omega) (by omega) hq2 kA (by show H2 40 30 = _; rw [fo 30 (by omega)]; exact h30) ⟨f17, f18, f19, f20⟩ hrd2
    · rw [g1.2.1]
      exact err (2, e) h1 (by rw [hrd]; unfold rFst; rw [eq, bnd_l, bnd_l]) (by show 0 < 2; decide) (by show 2 < _; decide) ((g0.mo r40_R).kF.tr (g1.mo rLn_R).kF)
  have no69 : ¬ ltr t n → sx_X sx_w 87 69 [some (.ref 40), some (.int 0), none, none, none, none] [] h (sx_qi f) := fun z => g_87_69 h 40 _ ⟨fun y => absurd rfl y, fun _ => ⟨rfl, err (1, 0) h (by unfold rd; rw [if_neg z]) (by show 0 < 1; decide) (by show 1 < _; decide) kF.rf⟩⟩
  have go69 : ltr t n → sx_X sx_w 87 69 [some (.ref 40), some (.int 1), none, none, none, none] [] h (sx_qi f) := fun z => by
    have hrd : rd t n = bnd (rFst t n (decide (t 1 = 105))) fun s => rBody t n s.1.1 s.1.2.1 s.1.2.2.1 s.1.2.2.2 s.2 (decide (t 1 = 105)) := by unfold rd; rw [if_pos z]
    refine g_87_69 h 40 _ ⟨fun _ => ⟨rfl, ⟨rfl, vp_in_nI (n := 1) (N := 8192) (by decide) (by decide)⟩, ?_⟩, fun y => absurd y (by decide)⟩
    rw [show h.1 (40 + 1) (Int32.toNatClampNeg 1) = nI (t 1) from (hm.2.2 1 (by omega)).1]
    have b1 := (hm.2.2 1 (by omega)).2
    refine pk_en (y := 97) (t 1) 97 (fun y => ?_) (fun y => ?_)
    · rw [show decide (t 1 = 105) = true from decide_eq_true (z.2.2.1.resolve_left y)] at hrd
      exact k97 true _ z hrd
    · rw [show decide (t 1 = 105) = false from decide_eq_false (by omega)] at hrd
      exact k97 false _ z hrd
  refine g_87_0 h 40 ⟨rfl, ?_⟩
  rw [hm.1]
  refine pk_le (y := 3) n 3 (fun z => no69 (by omega)) (fun z => ⟨rfl, ?_⟩)
  have vp : ∀ k : Nat, k < 5 → (sx_w.1 (40 + 1)).1 = 1 ∧ vp_in (nI k) (sx_w.1 (40 + 1)).2 := fun k hk => ⟨rfl, vp_in_nI (N := 8192) (by omega) (by decide)⟩
  have m0 := hm.2.2 0 (by omega)
  have m1 := hm.2.2 1 (by omega)
  have m2 := hm.2.2 2 (by omega)
  have m3 := hm.2.2 3 (by omega)
  rw [show h.1 (40 + 1) (Int32.toNatClampNeg 0) = nI (t 0) from m0.1, show h.1 (40 + 1) (Int32.toNatClampNeg 1) = nI (t 1) from m1.1, show h.1 (40 + 1) (Int32.toNatClampNeg 2) = nI (t 2) from m2.1, show h.1 (40 + 1) (Int32.toNatClampNeg 3) = nI (t 3) from m3.1]
  refine ⟨vp 0 (by decide), pk_en (y := 97) (t 0) 97 (fun y0 => no69 (by omega)) (fun y0 => ⟨rfl, vp 1 (by decide), pk_eq (y := 97) (t 1) 97 (fun y1 => ⟨rfl, vp 2 (by decide), pk_en (y := 103) (t 2) 103 (fun y2 => no69 (by omega)) (fun y2 => ⟨rfl, vp 3 (by decide), pk_en (y := 32) (t 3) 32 (fun y3 => no69 (by omega)) (fun y3 => go69 (by omega))⟩)⟩) (fun y1 => ⟨rfl, vp 1 (by decide), pk_en (y := 105) (t 1) 105 (fun y1' => no69 (by omega)) (fun y1' => ⟨rfl, vp 2 (by decide), pk_en (y := 103) (t 2) 103 (fun y2 => no69 (by omega)) (fun y2 => ⟨rfl, vp 3 (by decide), pk_en (y := 32) (t 3) 32 (fun y3 => no69 (by omega)) (fun y3 => go69 (by omega))⟩)⟩)⟩)⟩)⟩
