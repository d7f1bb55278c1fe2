-- THE CLASS LOADS
theorem foldl_P {α β : Type} {f : β → α → β} {P : β → Prop} : ∀ (l : List α) (b : β), P b → (∀ b, ∀ a ∈ l, P b → P (f b a)) → P (l.foldl f b)
  | [], _, h, _ => h
  | a :: l, b, h, k => foldl_P l (f b a) (k b a List.mem_cons_self h) (fun b a ha => k b a (List.mem_cons_of_mem _ ha))
theorem mis_mOK {M I O A : Nat} {L OU : List Nat} {G : List gt} (w : wf M I O A L OU G) : mOK (mis L OU G) := by
  have wM := w.1.1
  unfold mis
  refine foldl_P G _ (foldl_P OU 2000 (Or.inl rfl) (fun b a ha hb => ls_mOK hb (by have := w.2.2.2.2 a ha; omega))) (fun b g hg hb => ?_)
  have := w.2.2.2.1.1 g hg
  exact ls_mOK (ls_mOK hb (by omega)) (by omega)
def NP (M I O A : Nat) (L OU : List Nat) (G : List gt) (T : List Nat) (dp hi lo : Nat → Nat) : Prop :=
  wf M I O A L OU G ∧ (∀ x ∈ OU, stn L G (x / 2)) ∧ (∀ g ∈ G, stn L G (gM g / 2) ∧ stn L G (gm g / 2)) ∧ pI (sv L) G T dp ∧ (∀ g ∈ G, g.1 / 2 ∈ T) ∧ T.length = A ∧
  ∀ g ∈ G, hi ((sv L ++ T).idxOf (g.1 / 2)) = max (nl (sv L ++ T) (gM g)) (nl (sv L ++ T) (gm g)) ∧ lo ((sv L ++ T).idxOf (g.1 / 2)) = min (nl (sv L ++ T) (gM g)) (nl (sv L ++ T) (gm g))
theorem NP.stn {M I O A : Nat} {L OU : List Nat} {G : List gt} {T : List Nat} {dp hi lo : Nat → Nat} (h : NP M I O A L OU G T dp hi lo) {u : Nat} (hu : stn L G u) : u ∈ sv L ++ T := by
  rcases hu with z | ⟨g, hg, e⟩
  · exact List.mem_append_left _ z
  · exact List.mem_append_right _ (e ▸ h.2.2.2.2.1 g hg)
theorem NP.len {M I O A : Nat} {L OU : List Nat} {G : List gt} {T : List Nat} {dp hi lo : Nat → Nat} (h : NP M I O A L OU G T dp hi lo) : (sv L ++ T).length = I + 1 + A ∧ I + 1 + A ≤ 315 := by
  have w := h.1
  refine ⟨?_, by have := w.1; omega⟩
  rw [List.length_append, sv_len, w.2.1.1, h.2.2.2.2.2.1]
/-- each node above the inputs is a gate's -/
theorem NP.gate {M I O A : Nat} {L OU : List Nat} {G : List gt} {T : List Nat} {dp hi lo : Nat → Nat} (h : NP M I O A L OU G T dp hi lo) {n : Nat} (h1 : I < n) (h2 : n < I + 1 + A) : ∃ g ∈ G, (sv L ++ T).idxOf (g.1 / 2) = n ∧ (sv L ++ T)[n]? = some (g.1 / 2) := by
  have hl := h.len.1
  have hlt : n < (sv L ++ T).length := by omega
  have e : (sv L ++ T)[n]? = some (sv L ++ T)[n] := List.getElem?_eq_getElem hlt
  have hT : (sv L ++ T)[n] ∈ T := by
    have hsl : (sv L).length ≤ n := by rw [sv_len, h.1.2.1.1]; omega
    rw [List.getElem_append_right hsl]
    exact List.getElem_mem _
  obtain ⟨g, hg, eg⟩ := h.2.2.2.1.2.2.2.2 _ hT
  refine ⟨g, hg, ?_, by rw [e, eg]⟩
  rw [eg]
  exact ix_of h.2.2.2.1.1 e
theorem NP.low {M I O A : Nat} {L OU : List Nat} {G : List gt} {T : List Nat} {dp hi lo : Nat → Nat} (h : NP M I O A L OU G T dp hi lo) {n : Nat} (h1 : I < n) (h2 : n < I + 1 + A) : hi n / 2 < n ∧ lo n / 2 < n := by
  obtain ⟨g, hg, e, -⟩ := h.gate h1 h2
  obtain ⟨e1, e2⟩ := h.2.2.2.2.2.2 g hg
  obtain ⟨⟨-, a1, a2⟩, -⟩ := h.2.2.2.1.2.1 g hg (h.2.2.2.2.1 g hg)
  rw [e] at e1 e2 a1 a2
  rw [e1, e2]
  unfold nl
  omega
def CI (h : sx_H) (c M I O A : Nat) (L OU : List Nat) (G : List gt) (T : List Nat) (dp hi lo fo : Nat → Nat) : Prop :=
  NP M I O A L OU G T dp hi lo ∧ rS h c M I O A L OU G ∧ nd3 (h.1 (c + 7)) (sv L ++ T) G ∧ (∀ n v, (sv L ++ T)[n]? = some v → h.1 (c + 6) n = nI (dp v)) ∧ hlR h c I (I + 1 + A) hi lo ∧
  foR h c (I + 1 + A) fo ∧ (∀ n, n ≤ I → fo n = 2 * n) ∧ ∀ n, I < n → n < I + 1 + A → FC I fo hi lo n (fo n)
theorem CI.eq {h h' : sx_H} {c M I O A : Nat} {L OU : List Nat} {G : List gt} {T : List Nat} {dp hi lo fo : Nat → Nat} (x : CI h c M I O A L OU G T dp hi lo fo) (e : ∀ j, j ≤ 10 → h'.1 (c + j) = h.1 (c + j)) : CI h' c M I O A L OU G T dp hi lo fo := by
  obtain ⟨x1, x2, x3, x4, x5, x6, x7⟩ := x
  refine ⟨x1, x2.eq (fun j hj => e j (by omega)), by rw [e 7 (by omega)]; exact x3, by rw [e 6 (by omega)]; exact x4, ?_, ?_, x7⟩
  · unfold hlR
    rw [e 8 (by omega), e 9 (by omega)]
    exact x5
  · unfold foR
    rw [e 10 (by omega)]
    exact x6
def ldR (t : Nat → Nat) (n : Nat) : rE ⊕ rC → Prop
  | .inl e => rd t n = .inl e ∨ (∃ r, rd t n = .inr r ∧ mis r.2.1 r.2.2.1 r.2.2.2 ≠ 2000 ∧ e = (7, mis r.2.1 r.2.2.1 r.2.2.2)) ∨ ∃ r u, rd t n = .inr r ∧ mis r.2.1 r.2.2.1 r.2.2.2 = 2000 ∧ lpd r.2.2.2 u ∧ e = (8, u)
  | .inr r => rd t n = .inr r ∧ mis r.2.1 r.2.2.1 r.2.2.2 = 2000 ∧ ∀ u, ¬ lpd r.2.2.2 u
theorem ldR_un {t : Nat → Nat} {n : Nat} {x y : rE ⊕ rC} (hx : ldR t n x) (hy : ldR t n y) : x = y := by
  cases x with
  | inl e =>
    cases y with
    | inl e' =>
      rcases hx with a | ⟨r, a1, a2, a3⟩ | ⟨r, u, a1, a2, a3, a4⟩ <;> rcases hy with b | ⟨r', b1, b2, b3⟩ | ⟨r', u', b1, b2, b3, b4⟩
      · rw [a] at b; cases b; rfl
      · rw [a] at b1; cases b1
      · rw [a] at b1; cases b1
      · rw [a1] at b; cases b
      · rw [a1] at b1; cases b1; rw [a3, b3]
      · rw [a1] at b1; cases b1; exact absurd b2 a2
      · rw [a1] at b; cases b
      · rw [a1] at b1; cases b1; exact absurd a2 b2
      · rw [a1] at b1; cases b1; rw [a4, b4, lpd_un a3 b3]
    | inr r' =>
      obtain ⟨b1, b2, b3⟩ := hy
      rcases hx with a | ⟨r, a1, a2, a3⟩ | ⟨r, u, a1, a2, a3, a4⟩
      · rw [a] at b1; cases b1
      · rw [a1] at b1; cases b1; exact absurd b2 a2
      · rw [a1] at b1; cases b1; exact absurd a3 (b3 u)
  | inr r =>
    obtain ⟨b1, b2, b3⟩ := hx
    cases y with
    | inl e' =>
      rcases hy with a | ⟨r', a1, a2, a3⟩ | ⟨r', u, a1, a2, a3, a4⟩
      · rw [a] at b1; cases b1
      · rw [a1] at b1; cases b1; exact absurd b2 a2
      · rw [a1] at b1; cases b1; exact absurd a3 (b3 u)
    | inr r' =>
      have hy1 := hy.1
      rw [b1] at hy1
      cases hy1
      rfl
def sF (c : Nat) : Nat → Prop := fun b => b = 1 ∨ b = 2 ∨ (4 ≤ b ∧ b ≤ 9) ∨ (c ≤ b ∧ b ≤ c + 10)
theorem mS_CI {h h' : sx_H} {c M I O A : Nat} {L OU : List Nat} {G : List gt} {T : List Nat} {dp : Nat → Nat} (w : wf M I O A L OU G) (hm : mis L OU G = 2000) (m : mS h c M I O A L OU G (sv L ++ T) dp) (p : pI (sv L) G T dp) (hT : ∀ g ∈ G, g.1 / 2 ∈ T) (hl : T.length = A) :
    ∃ hi lo, NP M I O A L OU G T dp hi lo ∧ hlR h c I (I + 1 + A) hi lo := by
  obtain ⟨u1, u2⟩ := mis_2000 w hm
  have hlen : (sv L ++ T).length ≤ 315 := by
    rw [List.length_append, sv_len]
    have := w.1
    have := w.2.1
    omega
  have up : ∀ u, stn L G u → u ∈ sv L ++ T := fun u hu => by
    rcases hu with z | ⟨g, hg, e⟩
    · exact List.mem_append_left _ z
    · exact List.mem_append_right _ (e ▸ hT g hg)
  have hst : ∀ g ∈ G, stn L G (gM g / 2) ∧ stn L G (gm g / 2) := fun g hg => ⟨stn_of (u2 g hg).1, stn_of (u2 g hg).2⟩
  have rd : ∀ g ∈ G, (h.1 (c + 8) ((sv L ++ T).idxOf (g.1 / 2))).toInt.toNat = max (nl (sv L ++ T) (gM g)) (nl (sv L ++ T) (gm g)) ∧ (h.1 (c + 9) ((sv L ++ T).idxOf (g.1 / 2))).toInt.toNat = min (nl (sv L ++ T) (gM g)) (nl (sv L ++ T) (gm g)) := fun g hg => by
    obtain ⟨e1, e2⟩ := m.2.2.2 g hg (List.mem_append_right _ (hT g hg))
    have b1 := nl_lt (up _ (hst g hg).1)
    have b2 := nl_lt (up _ (hst g hg).2)
    rw [e1, e2, nI_toInt (by omega), nI_toInt (by omega)]
    exact ⟨rfl, rfl⟩
  have np : NP M I O A L OU G T dp (fun n => (h.1 (c + 8) n).toInt.toNat) (fun n => (h.1 (c + 9) n).toInt.toNat) := ⟨w, fun x hx => stn_of (u1 x hx), hst, p, hT, hl, rd⟩
  refine ⟨_, _, np, fun n h1 h2 => ?_⟩
  obtain ⟨g, hg, e, -⟩ := np.gate h1 h2
  have hlow := np.low h1 h2
  obtain ⟨e1, e2⟩ := m.2.2.2 g hg (List.mem_append_right _ (hT g hg))
  obtain ⟨d1, d2⟩ := rd g hg
  rw [e] at e1 e2 d1 d2
  exact ⟨by rw [d1]; exact e1, by rw [d2]; exact e2, hlow⟩
theorem e_load {h : sx_H} {n c c' : Nat} {t : Nat → Nat} {f : Int32 → sx_H → Prop} (hc : cc c') (hb : br h 2 1024 n t) (h4 : h.2.2 0 4 = c) (h5 : h.2.2 0 5 = c')
    (H0 : ∀ e, ldR t n (.inl e) → ∀ h', kp (sF c') h h' → h'.1 1 1 = nI e.1 → h'.1 1 2 = nI e.2 → br h' 2 1024 0 t → f (nI e.1) h')
    (H1 : ∀ r, ldR t n (.inr r) → ∀ h', (∀ b, ¬ sF c' b → h'.1 b = h.1 b ∧ h'.2.1 b = h.2.1 b) → h'.2.2 0 4 = c' → h'.2.2 0 5 = c → h'.1 1 1 = 0 → h'.1 1 2 = 0 → br h' 2 1024 0 t → (∃ T dp hi lo fo, CI h' c' r.1.1 r.1.2.1 r.1.2.2.1 r.1.2.2.2 r.2.1 r.2.2.1 r.2.2.2 T dp hi lo fo) → f 0 h') :
    sx_X sx_w 62 0 [some (.ref 0), none, none] [] h (sx_qi f) := by
  obtain ⟨q0, -⟩ := cc_sh hc
  have hc' := hc
  unfold cc at hc'
  have br0 : ∀ h1, br (hw h1 2 (va_up (h1.1 2) 0 0)) 2 1024 0 t := fun h1 => ⟨by rw [hw_self, va_up_self]; rfl, Nat.zero_le _, fun i hi => absurd hi (Nat.not_lt_zero _)⟩
  have k2 : ∀ h1, kp (sF c') h1 (hw h1 2 (va_up (h1.1 2) 0 0)) := fun h1 => kp_hw (S := sF c') (Or.inr (Or.inl rfl))
  have h21 : ∀ h1 : sx_H, (hw h1 2 (va_up (h1.1 2) 0 0)).1 1 = h1.1 1 := fun h1 => hw_ne _ _ (by decide)
  have done : ∀ e h1, ldR t n (.inl e) → kp (sF c') h h1 → h1.1 1 1 = nI e.1 → h1.1 1 2 = nI e.2 → f ((hw h1 2 (va_up (h1.1 2) 0 0)).1 1 1) (hw h1 2 (va_up (h1.1 2) 0 0)) := fun e h1 he k1 e1 e2 => by
    have := H0 e he _ (k1.tr (k2 h1)) (by rw [h21]; exact e1) (by rw [h21]; exact e2) (br0 h1)
    rw [h21, e1]
    exact this
  have CF : ∀ b, sC c' b → sF c' b := fun b hb => by unfold sC at hb; unfold sF; omega
  have SF : ∀ b, s1 b → sF c' b := fun b hb => by unfold s1 at hb; unfold sF; omega
  have DF : ∀ b, sD c' b → sF c' b := fun b hb => by unfold sD at hb; unfold sF; omega
  have EF : ∀ b, sE c' b → sF c' b := fun b hb => by unfold sE at hb; unfold sF; omega
  refine g_62_0 h 0 ⟨rfl, rfl, rfl, ?_⟩
  rw [h5]
  refine e_readInto hc hb (fun r hr h1 k1 e1 e2 r1 => ⟨fun y => absurd y (by decide), fun _ => ⟨rfl, rfl, ?_⟩⟩) (fun e he h1 k1 e1 e2 => ⟨fun _ => ⟨rfl, rfl, rfl, e_clear rfl rfl ⟨fun _ => ⟨rfl, rfl, done e h1 (Or.inl he) (k1.mo CF) e1 e2⟩, fun y => absurd rfl y⟩⟩, fun y => absurd rfl y⟩)
  have w := rd_wf hr
  have h15 : h1.2.2 0 5 = c' := by rw [k1.2]; exact h5
  rw [h15]
  refine e_usesStand hc r1 w (mis_mOK w) (fun hm => ⟨fun y => absurd y (by decide), fun _ => ⟨rfl, rfl, ?_⟩⟩) (fun hm h2 b2 => ⟨fun _ => ⟨rfl, rfl, rfl, e_clear rfl rfl ⟨fun _ => ⟨rfl, rfl, done (7, mis r.2.1 r.2.2.1 r.2.2.2) h2 (Or.inr (Or.inl ⟨r, hr, hm, rfl⟩)) ((k1.mo CF).tr (b2.1.mo SF)) b2.2.1 b2.2.2⟩, fun y => absurd rfl y⟩⟩, fun y => absurd rfl y⟩)
  rw [h15]
  obtain ⟨u1, u2⟩ := mis_2000 w hm
  refine e_gatesSettle hc r1 w (fun g hg => ⟨stn_of (u2 g hg).1, stn_of (u2 g hg).2⟩) (fun h2 T dp k2' m2 p2 hT hl hno => ⟨fun y => absurd y (by decide), fun _ => ⟨rfl, rfl, rfl, e_clear rfl rfl ⟨fun y => absurd y (by decide), fun _ => ⟨rfl, ?_⟩⟩⟩⟩) (fun u hu h2 k2' e1 e2 => ⟨fun _ => ⟨rfl, rfl, rfl, e_clear rfl rfl ⟨fun _ => ⟨rfl, rfl, done (8, u) h2 (Or.inr (Or.inr ⟨r, u, hr, hm, hu, rfl⟩)) ((k1.mo CF).tr (k2'.mo EF)) e1 e2⟩, fun y => absurd rfl y⟩⟩, fun y => absurd rfl y⟩)
  have k12 : kp (sF c') h h2 := (k1.mo CF).tr (k2'.mo DF)
  have r25 : (hw h2 2 (va_up (h2.1 2) 0 0)).2.2 = h.2.2 := k12.2
  have e3 : (hw h2 2 (va_up (h2.1 2) 0 0)).2.2 0 5 = c' := by rw [r25]; exact h5
  rw [show (0 + 1 + 1) = 2 from rfl, e3]
  refine ⟨q0, ?_⟩
  obtain ⟨hi, lo, np, hlr⟩ := mS_CI (h' := h2) w hm m2 p2 hT hl
  have dc : ∀ j, (hw h2 2 (va_up (h2.1 2) 0 0)).1 (c' + j) = h2.1 (c' + j) := fun j => hw_ne _ _ (by omega)
  have dc0 : (hw h2 2 (va_up (h2.1 2) 0 0)).1 c' = h2.1 c' := dc 0
  refine e_foldAll (hi := hi) (lo := lo) hc (by rw [dc0]; exact m2.1.1.1) (by rw [dc0]; exact m2.1.1.2.1) np.len.2 (fun m a b => by rw [dc, dc]; exact hlr m a b) (fun h3 fo k3 hf h00 hF => ⟨rfl, rfl, ⟨rfl, rfl⟩, ⟨rfl, rfl⟩, rfl, rfl, ?_⟩)
  have e31 : h3.1 1 = h2.1 1 := by rw [k3.i (show ¬ 1 = c' + 10 by omega), h21]
  have e21 : h2.1 1 = h1.1 1 := k2'.i (by unfold sD; omega)
  rw [show (0 + 1) = 1 from rfl]
  have hres : h3.1 1 1 = 0 := by rw [e31, e21]; exact e1
  rw [hres]
  have d3 : ∀ j, j ≠ 10 → h3.1 (c' + j) = h2.1 (c' + j) := fun j hj => by rw [k3.i (show ¬ c' + j = c' + 10 by omega), dc]
  refine H1 r ⟨hr, hm, hno⟩ _ (fun b hb' => ?_) ?_ ?_ hres (by show h3.1 1 2 = 0; rw [e31, e21]; exact e2) ?_ ⟨T, dp, hi, lo, fo, np, ?_, ?_, ?_, ?_, hf, h00, hF⟩
  · have a1 := k3.1 b (fun q => hb' (by unfold sF; omega))
    have a2 := (k12.tr (k2 h2)).1 b hb'
    exact ⟨a1.1.trans a2.1, a1.2.trans a2.2⟩
  · dsimp only
    rw [sx_u_eq, va_up_ne _ _ (by decide), sx_u_eq, va_up_self, k3.2, e3]
  · dsimp only
    rw [sx_u_eq, va_up_self, k3.2, r25, h4]
  · have b0 := (br0 h2).kp k3 (by omega) (by omega)
    exact ⟨b0.1, b0.2.1, b0.2.2⟩
  · exact m2.1.eq (fun j hj => d3 j (by omega))
  · show nd3 (h3.1 (c' + 7)) _ _
    rw [d3 7 (by decide)]; exact m2.2.1
  · show ∀ n v, _ → h3.1 (c' + 6) n = _
    rw [d3 6 (by decide)]; exact m2.2.2.1
  · intro m a b
    show h3.1 (c' + 8) m = _ ∧ h3.1 (c' + 9) m = _ ∧ _
    rw [d3 8 (by decide), d3 9 (by decide)]
    exact hlr m a b
