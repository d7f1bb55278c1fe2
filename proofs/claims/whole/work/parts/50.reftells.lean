-- THE REFERENCE: what a text that reads well still lacks
def rX : Nat → Prop := fun b => b = 40 ∨ (49 ≤ b ∧ b ≤ 54) ∨ (57 ≤ b ∧ b ≤ 59)
def fk (k : Nat) : Prop := k = 0 ∨ k = 2 ∨ k = 4 ∨ (7 ≤ k ∧ k ≤ 10) ∨ k = 36
def kF (h h' : sx_H) : Prop := kp rX h h' ∧ ∀ k, fk k → h'.1 40 k = h.1 40 k
theorem kF.rf {h : sx_H} : kF h h := ⟨kp.rf, fun _ _ => rfl⟩
theorem kF.tr {h h1 h2 : sx_H} (x : kF h h1) (y : kF h1 h2) : kF h h2 := ⟨x.1.tr y.1, fun k hk => (y.2 k hk).trans (x.2 k hk)⟩
theorem gq.kF {h h' : sx_H} {p : Nat} (x : gq rR h h' p) : kF h h' := ⟨x.1.mo (fun b hb => by unfold rR at hb; unfold rX; omega), fun k hk => x.2.2 k (by unfold fk at hk; omega)⟩
theorem bR.kF {h h' : sx_H} {p : rE} (x : bR rR h h' p) : kF h h' := ⟨x.1.mo (fun b hb => by unfold rR at hb; unfold rX; omega), fun k hk => x.2.2.2 k (by unfold fk at hk; omega) (by unfold fk at hk; omega) (by unfold fk at hk; omega)⟩
theorem kF.mt {h h' : sx_H} {n : Nat} {t : Nat → Nat} (x : kF h h') (m : mt h n t) : mt h' n t := m.kp x.1 (x.2 2 (Or.inr (Or.inl rfl))) (by unfold rX; decide)
theorem k57.kF {h h' : sx_H} (x : kp r57 h h') : kF h h' := ⟨x.mo (fun b hb => by unfold r57 at hb; unfold rX; omega), fun k _ => by rw [x.i (show ¬ r57 40 by unfold r57; decide)]⟩
def bX (h h' : sx_H) (x : rE) : Prop := kF h h' ∧ h'.1 40 5 = nI x.1 ∧ h'.1 40 6 = nI x.2
theorem kF.bX {h h1 h2 : sx_H} {x : rE} (a : kF h h1) (b : bR rR h1 h2 x) : bX h h2 x := ⟨a.tr b.kF, b.2.1, b.2.2.1⟩
theorem f_tX {h h1 : sx_H} {x : rE} {f : Int32 → sx_H → Prop} (a : kF h h1) (H : ∀ h', bX h h' x → kp r40 h1 h' → (∀ k, k ≠ 5 → k ≠ 6 → h'.1 40 k = h1.1 40 k) → f (nI x.1) h') : sx_X sx_w 81 0 [some (.ref 40), some (.int (nI x.1)), some (.int (nI x.2))] [] h1 (sx_qi f) :=
  f_tell (fun h' k e1 e2 e3 => H h' ⟨a.tr ⟨k.mo (fun b hb => Or.inl hb), fun q hq => e3 q (by unfold fk at hq; omega) (by unfold fk at hq; omega)⟩, e1, e2⟩ k e3)
theorem f_lesser {h : sx_H} {M I O A m x : Nat} {L OU : List Nat} {G : List gt} {f : Int32 → sx_H → Prop} (hr : rN h M I O A L OU G) (hm : m ≤ 2000) (hx : x ≤ 2001) (H : f (nI (ls L G m x)) h) : sx_X sx_w 92 0 [some (.ref 40), some (.int (nI m)), some (.int (nI x))] [] h (sx_qi f) := by
  refine g_92_0 h 40 _ _ ⟨rfl, by decide, ?_⟩
  rw [half_nI (by omega), nI_clamp (by omega), show h.1 (40 + 14) (x / 2) = _ from hr.2.2.2.2 (x / 2) (by omega)]
  have := kdv_le L G (x / 2)
  unfold ls at H
  refine ⟨⟨rfl, vp_in_nI (N := 1001) (by omega) (by decide)⟩, pk_en (y := 0) (kdv L G (x / 2)) 0 (fun z => ?_) (fun z => ⟨by decide, pk_le m (x / 2) (fun z1 => ?_) (fun z1 => ⟨by decide, ?_⟩)⟩)⟩
  · rw [if_neg (fun q => z (kdv_0.mpr q.1))] at H; exact H
  · rw [if_neg (by omega)] at H; exact H
  · rw [if_pos ⟨kdv_0.mp z, z1⟩] at H; exact H
theorem kdv_2 {M I O A : Nat} {L OU : List Nat} {G : List gt} (w : wf M I O A L OU G) {v : Nat} : kdv L G v = 2 ↔ ∃ g ∈ G, g.1 / 2 = v := by
  unfold kdv
  by_cases h0 : v = 0
  · rw [if_pos h0]
    exact ⟨fun z => absurd z (by decide), fun ⟨g, hg, e⟩ => by have := (sv_gate w hg).2.1; omega⟩
  · rw [if_neg h0]
    by_cases h1 : ∀ x ∈ L, x / 2 ≠ v
    · rw [if_pos h1]
      by_cases h2 : ∀ g ∈ G, g.1 / 2 ≠ v
      · rw [if_pos h2]; exact ⟨fun z => absurd z (by decide), fun ⟨g, hg, e⟩ => absurd e (h2 g hg)⟩
      · rw [if_neg h2]
        refine ⟨fun _ => Classical.byContradiction (fun q => h2 (fun g hg e => q ⟨g, hg, e⟩)), fun _ => rfl⟩
    · rw [if_neg h1]
      refine ⟨fun z => absurd z (by decide), fun ⟨g, hg, e⟩ => absurd (fun x hx e2 => ?_) h1⟩
      exact (w.2.2.2.1.1 g hg).2.2.2.2.2 x hx (e2.trans e.symm)
theorem f_tells {h h00 : sx_H} {M I O A : Nat} {L OU : List Nat} {G : List gt} {f : Int32 → sx_H → Prop} (k00 : kF h00 h) (hr : rN h M I O A L OU G) (w : wf M I O A L OU G)
    (H7 : mis L OU G ≠ 2000 → ∀ h', bX h00 h' (7, mis L OU G) → f 7 h') (H8 : ∀ u, mis L OU G = 2000 → lpd G u → ∀ h', bX h00 h' (8, u) → f 8 h')
    (H0 : mis L OU G = 2000 → (∀ u, ¬ lpd G u) → ∀ h', bX h00 h' (0, 0) → rN h' M I O A L OU G → f 0 h') :
    sx_X sx_w 91 0 [some (.ref 40), none, none] [] h (sx_qi f) := by
  have w' := w
  obtain ⟨⟨wM, wI, wO, wA⟩, ⟨lL, lO, lG⟩, wL, wG, wO2⟩ := w
  have hm := mis_mOK w'
  have rNk : ∀ {h0 : sx_H}, kp r57 h h0 → rN h0 M I O A L OU G := fun {h0} k => by
    have e : ∀ j, j ≠ 57 → h0.1 j = h.1 j := fun j hj => k.i hj
    unfold rN
    rw [e 40 (by decide), e 49 (by decide), e 50 (by decide), e 51 (by decide), e 52 (by decide), e 53 (by decide), e 54 (by decide)]
    exact hr
  have key3 : ∀ (e v : Nat) (h0 : sx_H) (i1 : Int32), v + e = M + 1 → 1 ≤ v → mis L OU G = 2000 → kp r57 h h0 → (∀ g ∈ G, g.1 / 2 < v → ¬ rp G (g.1 / 2) (g.1 / 2)) → sx_X sx_w 91 87 [some (.ref 40), some (.int i1), some (.int (nI v))] [] h0 (sx_qi f) := by
    intro e
    induction e with
    | zero =>
      intro v h0 i1 hv hv1 hm2 k0 hno
      have rn := rNk k0
      refine g_91_87 h0 40 _ _ ⟨rfl, ?_⟩
      rw [rn.1.1]
      refine pk_lt M v (fun _ => ⟨rfl, f_tX (x := (0, 0)) (k00.tr (k57.kF k0)) (fun h' b' k' ho => H0 hm2 (fun u hu => ?_) h' b' ?_)⟩) (fun z => (by omega))
      · obtain ⟨g, hg, e, hp, -⟩ := hu
        have := (sv_gate w' hg).2.2
        rw [← e] at hp
        exact hno g hg (by omega) hp
      · have e : ∀ j, j ≠ 40 → h'.1 j = h0.1 j := fun j hj => k'.i hj
        obtain ⟨⟨a, b, c, d⟩, r1, r2, r3, r4⟩ := rn
        refine ⟨by rw [ho 17 (by decide) (by decide), ho 18 (by decide) (by decide), ho 19 (by decide) (by decide), ho 20 (by decide) (by decide)]; exact ⟨a, b, c, d⟩, ?_, ?_, ?_, ?_⟩
        · rw [e 49 (by decide)]; exact r1
        · rw [e 50 (by decide)]; exact r2
        · rw [e 51 (by decide), e 52 (by decide), e 53 (by decide)]; exact r3
        · rw [e 54 (by decide)]; exact r4
    | succ e ih =>
      intro v h0 i1 hv hv1 hm2 k0 hno
      have rn := rNk k0
      refine g_91_87 h0 40 _ _ ⟨rfl, ?_⟩
      rw [rn.1.1, nI_clamp (by omega), show h0.1 (40 + 14) v = _ from rn.2.2.2.2 v (by omega)]
      have := kdv_le L G v
      have goOn : (∀ g ∈ G, g.1 / 2 = v → ¬ rp G v v) → ∀ h1, kp r57 h0 h1 → sx_X sx_w 91 87 [some (.ref 40), some (.int i1), some (.int (nI v + 1))] [] h1 (sx_qi f) := fun hn h1 k1 => by
        rw [nI_1]
        refine ih (v + 1) h1 i1 (by omega) (by omega) hm2 (k0.tr k1) (fun g hg hl hp => ?_)
        by_cases q : g.1 / 2 < v
        · exact hno g hg q hp
        · have e : g.1 / 2 = v := by omega
          rw [e] at hp
          exact hn g hg e hp
      refine pk_lt M v (fun z => (by omega)) (fun _ => ⟨rfl, ⟨rfl, vp_in_nI (N := 1001) (by omega) (by decide)⟩, pk_en (y := 2) (kdv L G v) 2 (fun z => goOn (fun g hg e => absurd ((kdv_2 w').mpr ⟨g, hg, e⟩) z) h0 kp.rf) (fun z => ⟨rfl, f_isOwn rn w' (by omega) (fun hp h1 k1 => ⟨fun y => absurd y (by decide), fun _ => ⟨rfl, ?_⟩⟩) (fun hp h1 k1 => ⟨fun _ => goOn (fun g hg e => hp) h1 k1, fun y => absurd rfl y⟩)⟩)⟩)
      refine f_tX (x := (8, v)) ((k00.tr (k57.kF k0)).tr (k57.kF k1)) (fun h' b' _ _ => H8 v hm2 ?_ h' b')
      obtain ⟨g, hg, e⟩ := (kdv_2 w').mp z
      exact ⟨g, hg, e, hp, fun g' hg' hp' => Classical.byContradiction (fun q => hno g' hg' (by omega) hp')⟩
  have key2 : ∀ (rest : List gt) (k m : Nat), G.drop k = rest → k ≤ G.length → m ≤ 2000 → rest.foldl (fun m g => ls L G (ls L G m (max g.2.1 g.2.2)) (min g.2.1 g.2.2)) m = mis L OU G → sx_X sx_w 91 34 [some (.ref 40), some (.int (nI m)), some (.int (nI k))] [] h (sx_qi f) := by
    intro rest
    induction rest with
    | nil =>
      intro k m hd hk hm2 E
      have := dropn hd
      have E' : m = mis L OU G := E
      refine g_91_34 h 40 _ _ ⟨rfl, ?_⟩
      rw [hr.1.2.2.1]
      refine pk_le A k (fun _ => pk_le 2000 m (fun z => ?_) (fun z => ⟨rfl, ?_⟩)) (fun z => (by omega))
      · exact key3 M 1 h _ (by omega) (Nat.le_refl _) (by omega) kp.rf (fun g hg hl => by have := (sv_gate w' hg).2.1; omega)
      · rw [E']
        exact f_tX (x := (7, mis L OU G)) k00 (fun h' b' _ _ => H7 (by omega) h' b')
    | cons g rest ih =>
      intro k m hd _ hm2 E
      obtain ⟨hk, hg, hd'⟩ := dropc hd
      have hgG := wG.1 g (List.mem_of_getElem? hg)
      obtain ⟨-, r4, r5⟩ := hr.2.2.2.1 k g hg
      have va : vp_in (nI k) 300 := vp_in_nI (by omega) (by decide)
      refine g_91_34 h 40 _ _ ⟨rfl, ?_⟩
      rw [hr.1.2.2.1, nI_clamp (by omega), show h.1 (40 + 12) k = _ from r4]
      refine pk_le A k (fun z => (by omega)) (fun _ => ⟨rfl, ⟨rfl, va⟩, rfl, ?_⟩)
      have l1 := ls_le L G m (max g.2.1 g.2.2)
      refine f_lesser hr hm2 (by unfold gM; omega) ⟨rfl, ⟨rfl, va⟩, rfl, ?_⟩
      rw [show h.1 (40 + 13) k = _ from r5]
      refine f_lesser hr (Nat.le_trans l1 hm2) (by unfold gm; omega) ?_
      rw [nI_1]
      have l2 := ls_le L G (ls L G m (max g.2.1 g.2.2)) (min g.2.1 g.2.2)
      exact ih (k + 1) _ hd' (by omega) (Nat.le_trans l2 (Nat.le_trans l1 hm2)) E
  have key1 : ∀ (rest : List Nat) (k m : Nat), OU.drop k = rest → k ≤ OU.length → m ≤ 2000 → rest.foldl (ls L G) m = OU.foldl (ls L G) 2000 → sx_X sx_w 91 6 [some (.ref 40), some (.int (nI m)), some (.int (nI k))] [] h (sx_qi f) := by
    intro rest
    induction rest with
    | nil =>
      intro k m hd hk hm2 E
      have := dropn hd
      refine g_91_6 h 40 _ _ ⟨rfl, ?_⟩
      rw [hr.1.2.2.2]
      exact pk_le O k (fun _ => key2 G 0 m rfl (Nat.zero_le _) hm2 (by unfold mis; rw [← E]; rfl)) (fun z => (by omega))
    | cons x rest ih =>
      intro k m hd _ hm2 E
      obtain ⟨hk, hx, hd'⟩ := dropc hd
      have hx2 := wO2 x (List.mem_of_getElem? hx)
      refine g_91_6 h 40 _ _ ⟨rfl, ?_⟩
      rw [hr.1.2.2.2, nI_clamp (by omega), show h.1 (40 + 10) k = _ from hr.2.2.1 k x hx]
      refine pk_le O k (fun z => (by omega)) (fun _ => ⟨rfl, ⟨rfl, vp_in_nI (N := 16) (by omega) (by decide)⟩, rfl, ?_⟩)
      refine f_lesser hr hm2 (by omega) ?_
      rw [nI_1]
      have l1 := ls_le L G m x
      exact ih (k + 1) _ hd' (by omega) (by omega) E
  exact g_91_0 h 40 (key1 OU 0 2000 rfl (Nat.zero_le _) (Nat.le_refl _) rfl)
