-- THE CLASS SETTLES: a pass, all passes
theorem len1 {α : Type} (l : List α) (x : α) : (l ++ [x]).length = l.length + 1 := by rw [List.length_append]; rfl
def sv (L : List Nat) : List Nat := 0 :: L.map (fun x => x / 2)
theorem sv_len (L : List Nat) : (sv L).length = L.length + 1 := by unfold sv; simp
def stn (L : List Nat) (G : List gt) (u : Nat) : Prop := u ∈ sv L ∨ ∃ g ∈ G, g.1 / 2 = u
theorem stn_of {L : List Nat} {G : List gt} {u : Nat} (h : ¬ (u ≠ 0 ∧ fr L G u)) : stn L G u := by
  by_cases h0 : u = 0
  · rw [h0]; exact Or.inl List.mem_cons_self
  · by_cases h1 : ∃ x ∈ L, x / 2 = u
    · obtain ⟨x, hx, e⟩ := h1
      exact Or.inl (List.mem_cons_of_mem _ (List.mem_map.mpr ⟨x, hx, e⟩))
    · by_cases h2 : ∃ g ∈ G, g.1 / 2 = u
      · exact Or.inr h2
      · exact absurd ⟨h0, fun x hx e => h1 ⟨x, hx, e⟩, fun g hg e => h2 ⟨g, hg, e⟩⟩ h
theorem sv_gate {M I O A : Nat} {L OU : List Nat} {G : List gt} (w : wf M I O A L OU G) {g : gt} (hg : g ∈ G) : g.1 / 2 ∉ sv L ∧ 1 ≤ g.1 / 2 ∧ g.1 / 2 ≤ M := by
  obtain ⟨h1, h2, h3, h4, h5, h6⟩ := w.2.2.2.1.1 g hg
  refine ⟨fun q => ?_, by omega, by omega⟩
  rcases List.mem_cons.mp q with q | q
  · omega
  · obtain ⟨x, hx, e⟩ := List.mem_map.mp q
    exact h6 x hx e
theorem sv_nodup {M : Nat} : ∀ {L : List Nat}, okL M L → (sv L).Nodup := fun {L} h => by
  refine List.nodup_cons.mpr ⟨fun q => ?_, ?_⟩
  · obtain ⟨x, hx, e⟩ := List.mem_map.mp q
    have := h.1 x hx
    omega
  · exact List.pairwise_map.mpr (List.Pairwise.imp (fun {a b} hab => hab) h.2)
theorem sv_le {M : Nat} {L : List Nat} (h : okL M L) {u : Nat} (hu : u ∈ sv L) : u ≤ M := by
  rcases List.mem_cons.mp hu with q | q
  · omega
  · obtain ⟨x, hx, e⟩ := List.mem_map.mp q
    have := h.1 x hx
    omega
theorem ndOK_nd3 {M I O A : Nat} {L OU : List Nat} {G : List gt} (w : wf M I O A L OU G) {row : Nat → Int32} (h : ndOK row L G) : nd3 row (sv L) G := by
  intro v hv
  rcases h v hv with ⟨i, x, h1, h2, h3⟩ | ⟨k, g, h1, h2, h3⟩ | ⟨h1, h2, h3⟩
  · refine Or.inl ⟨i + 1, ?_, h3⟩
    show (L.map (fun x => x / 2))[i]? = some v
    rw [List.getElem?_map, h1, ← h2]; rfl
  · exact Or.inr (Or.inl ⟨by rw [← h2]; exact (sv_gate w (List.mem_of_getElem? h1)).1, k, g, h1, h2, h3⟩)
  · by_cases h0 : v = 0
    · exact Or.inl ⟨0, by rw [h0]; rfl, h3⟩
    · refine Or.inr (Or.inr ⟨fun q => ?_, h2, h3⟩)
      rcases List.mem_cons.mp q with q | q
      · exact h0 q
      · obtain ⟨x, hx, e⟩ := List.mem_map.mp q
        exact h1 x hx e
theorem rI_mS {M I O A c : Nat} {h : sx_H} {L OU : List Nat} {G : List gt} (w : wf M I O A L OU G) (r : rI h c M I O A L OU G) : mS h c M I O A L OU G (sv L) (fun _ => 0) := by
  obtain ⟨r0, r1, r2, r3, r6, r7⟩ := r
  refine ⟨⟨r0, r1, r2, r3⟩, ndOK_nd3 w r7, fun n v hn => ?_, fun g hg q => absurd q (sv_gate w hg).1⟩
  have h1 := (List.getElem?_eq_some_iff.mp hn).1
  rw [sv_len] at h1
  have := w.1.2.1
  have := w.2.1.1
  exact r6 n (by omega)
theorem pS_0 {M I O A : Nat} {L OU : List Nat} {G W : List gt} (w : wf M I O A L OU G) (hW : W.Pairwise pO) (hm : ∀ g, g ∈ W ↔ g ∈ G) : pS (sv L) G 1 [] (fun _ => 0) W := by
  refine ⟨⟨by rw [List.append_nil]; exact sv_nodup w.2.2.1, fun g _ q => (by cases q), fun _ _ => rfl, List.Pairwise.nil, fun u hu => (by cases hu)⟩, fun u hu => (by cases hu), hW, fun g hg => ⟨(hm g).mp hg, by rw [List.append_nil]; exact (sv_gate w ((hm g).mp hg)).1, Or.inr (Or.inl rfl)⟩, fun g hg => Or.inr ((hm g).mpr hg), by decide⟩
theorem e_settleDepth {h : sx_H} {c M I O A d : Nat} {L OU T : List Nat} {G W : List gt} {dp : Nat → Nat} {f : Int32 → sx_H → Prop} (hc : cc c) (m : mS h c M I O A L OU G (sv L ++ T) dp) (w : wf M I O A L OU G) (hst : ∀ g ∈ G, stn L G (gM g / 2) ∧ stn L G (gm g / 2)) (p : pS (sv L) G d T dp W) (h61 : h.1 6 1 = nI W.length) (hw7 : wt (h.1 7) G W) (hlen : T.length + W.length = A)
    (H : ∀ h' T' dp' W', kp (sD c) h h' → mS h' c M I O A L OU G (sv L ++ T') dp' → pS (sv L) G (d + 1) T' dp' W' → h'.1 6 1 = nI W'.length → wt (h'.1 7) G W' → T'.length + W'.length = A → W'.length ≤ W.length → (W'.length = W.length → ∀ g ∈ W', ¬ nd1 (sv L ++ T') g) → f (nI (sv L ++ T').length) h') :
    sx_X sx_w 42 0 [some (.ref 6), some (.ref c), some (.int (nI d)), some (.int (nI (sv L ++ T).length)), none, none, none, none] [] h (sx_qi f) := by
  obtain ⟨q0, q1, q2, q3, q4, q5, q6, q7, q8, q9, q10⟩ := cc_sh hc
  have hc' := hc
  unfold cc at hc'
  obtain ⟨⟨wM, wI, wO, wA⟩, ⟨lL, lO, lG⟩, wL, wG, wO2⟩ := w
  have w : wf M I O A L OU G := ⟨⟨wM, wI, wO, wA⟩, ⟨lL, lO, lG⟩, wL, wG, wO2⟩
  have hdG := pw_dG wG.2
  have key : ∀ (rest : List gt) (i : Nat) (K : List gt) (R : List Nat) (dc : Nat → Nat) (h0 : sx_H) (o : Option Value), W.drop i = rest → K.length + R.length = i → i ≤ W.length → qI (sv L) G T dp d rest K R dc → mS h0 c M I O A L OU G (sv L ++ (T ++ R)) dc → kp (sD c) h h0 → h0.1 6 1 = nI W.length → wt (h0.1 7) G K → (∀ j g, i ≤ j → W[j]? = some g → ∃ k, G[k]? = some g ∧ h0.1 7 j = nI k) →
      sx_X sx_w 42 9 [some (.ref 6), some (.ref c), some (.int (nI d)), some (.int (nI (sv L ++ T).length)), some (.int (nI (sv L ++ (T ++ R)).length)), some (.int (nI K.length)), some (.int (nI i)), o] [] h0 (sx_qi f) := by
    intro rest
    induction rest with
    | nil =>
      intro i K R dc h0 o hdr hKR hi q m0 k0 h061 hwK hwW
      have hiW := dropn hdr
      refine g_42_9 h0 6 c _ _ _ _ _ o ⟨rfl, ?_⟩
      rw [h061]
      refine pk_le W.length i (fun _ => ⟨⟨rfl, rfl⟩, ?_⟩) (fun z => (by omega))
      refine H _ (T ++ R) dc K (k0.tr (kp_hw (S := sD c) (Or.inl rfl))) ?_ (qI_end q) ?_ ?_ (by rw [List.length_append]; omega) (by omega) (fun e g hg => ?_)
      · exact m0.eq (fun j hj => by dsimp only; rw [sx_u_ne (by omega)])
      · dsimp only
        rw [sx_u_eq, va_up_self]
      · dsimp only
        rw [sx_u_ne (by decide)]
        exact hwK
      · have hR : R = [] := List.length_eq_zero_iff.mp (by omega)
        rw [hR, List.append_nil]
        exact (q.2.2.2.1 g hg).2.2
    | cons g rest ih =>
      intro i K R dc h0 o hdr hKR hi q m0 k0 h061 hwK hwW
      obtain ⟨hiW, hgi, hdr'⟩ := dropc hdr
      obtain ⟨hgG, hgS, -⟩ := q.2.2.2.2.2.1 g List.mem_cons_self
      obtain ⟨k, hk, ek⟩ := hwW i g (Nat.le_refl _) hgi
      have hk' := (List.getElem?_eq_some_iff.mp hk).1
      obtain ⟨r3, r4, r5⟩ := m0.1.2.2.2 k g hk
      have hgok := wG.1 g hgG
      have hgMle : gM g ≤ 2 * M + 1 := by unfold gM; omega
      have hgmle := gm_le g
      have nodup := q.1.1
      have hlenS : (sv L ++ (T ++ R)).length ≤ 314 := by
        rw [List.length_append, List.length_append, sv_len]; omega
      have nodup' : (sv L ++ T ++ R).Nodup := by rw [List.append_assoc]; exact nodup
      have hnd3 : nd3 (h0.1 (c + 7)) (sv L ++ T ++ R) G := by rw [List.append_assoc]; exact m0.2.1
      have hstn : ∀ u, stn L G u → u ∈ sv L ++ T ++ R ∨ ∃ g ∈ G, g.1 / 2 = u := fun u hu => by
        rcases hu with z | z
        · exact Or.inl (List.mem_append_left _ (List.mem_append_left _ z))
        · exact Or.inr z
      have no : ¬ nd1 (sv L ++ T) g → sx_X sx_w 76 0 [some (.ref (6 + 1)), some (.int (nI K.length)), some (.int (nI k))] [] h0 (sx_qv fun h7 => sx_X sx_w 42 9 [some (.ref 6), some (.ref c), some (.int (nI d)), some (.int (nI (sv L ++ T).length)), some (.int (nI (sv L ++ (T ++ R)).length)), some (.int (nI K.length + 1)), some (.int (nI i + 1)), some (.int (nI k))] [] h7 (sx_qi f)) := fun hn => by
        refine e_store (a := 6 + 1) (n := 300) rfl rfl (by decide) ?_
        rw [st_nI (by omega) (by decide), nI_1, nI_1]
        have := ih (i + 1) (K ++ [g]) R dc (hw h0 (6 + 1) (va_up (h0.1 (6 + 1)) K.length (nI k))) (some (.int (nI k))) hdr' (by rw [List.length_append, List.length_singleton]; omega) hiW (qI_no q hn) (m0.eq (fun j hj => hw_ne _ _ (by omega))) (k0.tr (kp_hw (S := sD c) (Or.inr (Or.inl rfl)))) (by rw [hw_ne _ _ (by decide)]; exact h061) (by
          show wt ((hw h0 7 _).1 7) G _
          rw [hw_self]
          exact hwK.app hk) (fun j g' hj hg' => by
          obtain ⟨k', e1, e2⟩ := hwW j g' (by omega) hg'
          refine ⟨k', e1, ?_⟩
          show (hw h0 7 _).1 7 j = _
          rw [hw_self, va_up_ne _ _ (by omega)]
          exact e2)
        rw [len1 K g] at this
        exact this
      refine g_42_9 h0 6 c _ _ _ _ _ o ⟨rfl, ?_⟩
      rw [h061]
      refine pk_le W.length i (fun z => (by omega)) (fun _ => ⟨rfl, e_pick (a := 6 + 1) (n := 300) rfl (by decide) ?_⟩)
      rw [pk_nI (by omega) (by decide), show h0.1 (6 + 1) i = nI k from ek]
      refine ⟨q0, e_pick q4 (by decide) ?_⟩
      rw [pk_nI (by omega) (by decide), r4]
      refine ⟨q0, e_stands (Sp := sv L ++ T) (R := R) (G := G) q0 q7 hnd3 nodup' (by rw [List.append_assoc]; omega) (by omega) (by omega) (hstn _ (hst g hgG).1) (fun z1 => ⟨fun y => absurd y (by decide), fun _ => ?_⟩) (fun z1 => ⟨fun _ => ⟨rfl, no (fun z => z1 z.1)⟩, fun y => absurd rfl y⟩)⟩
      refine ⟨q0, e_pick q5 (by decide) ?_⟩
      rw [pk_nI (by omega) (by decide), r5]
      refine ⟨q0, e_stands (Sp := sv L ++ T) (R := R) (G := G) q0 q7 hnd3 nodup' (by rw [List.append_assoc]; omega) (by omega) (by omega) (hstn _ (hst g hgG).2) (fun z2 => ⟨fun y => absurd y (by decide), fun _ => ⟨q0, ?_⟩⟩) (fun z1 => ⟨fun _ => ⟨rfl, no (fun z => z1 z.2)⟩, fun y => absurd rfl y⟩)⟩
      have up : ∀ u, u ∈ sv L ++ T → u ∈ sv L ++ (T ++ R) := fun u hu => by rw [← List.append_assoc]; exact List.mem_append_left _ hu
      refine e_settleGate (S := sv L ++ (T ++ R)) hc m0 hdG wM hgMle (by omega) hk (by omega) ⟨up _ z1, up _ z2⟩ hgS nodup rfl (by omega) (fun g' hg' hm' => ?_) (fun h1 k1 e6 e7 m1 => ?_)
      · rcases List.mem_append.mp hm' with z | z
        · exact absurd z (sv_gate w hg').1
        · exact (q.1.2.1 g' hg' z).1.1
      · rw [nI_1, nI_1]
        have eS : sv L ++ (T ++ R) ++ [g.1 / 2] = sv L ++ (T ++ (R ++ [g.1 / 2])) := by simp only [List.append_assoc]
        have := ih (i + 1) K (R ++ [g.1 / 2]) (va_up dc (g.1 / 2) d) h1 (some (.int (nI k))) hdr' (by rw [List.length_append, List.length_singleton]; omega) hiW (qI_yes hdG q ⟨z1, z2⟩) (by rw [← eS]; exact m1) (k0.tr k1) (by rw [e6]; exact h061) (by rw [e7]; exact hwK) (fun j g' hj hg' => by rw [e7]; exact hwW j g' (by omega) hg')
        rw [← eS, len1 (sv L ++ (T ++ R))] at this
        exact this
  refine g_42_0 h 6 c _ _ ?_
  have := key W 0 [] [] dp h none rfl rfl (Nat.zero_le _) (qI_0 p) (by rw [List.append_nil]; exact m) kp.rf h61 (fun j g hj => (by cases hj)) (fun j g _ hg => hw7 j g hg)
  rw [List.append_nil] at this
  exact this
theorem e_settle {h : sx_H} {c M I O A : Nat} {L OU : List Nat} {G : List gt} {f : Int32 → sx_H → Prop} (hc : cc c) (m : mS h c M I O A L OU G (sv L) (fun _ => 0)) (w : wf M I O A L OU G) (hst : ∀ g ∈ G, stn L G (gM g / 2) ∧ stn L G (gm g / 2))
    (H1 : ∀ h' T dp, kp (sD c) h h' → mS h' c M I O A L OU G (sv L ++ T) dp → pI (sv L) G T dp → (∀ g ∈ G, g.1 / 2 ∈ T) → T.length = A → f 1 h')
    (H0 : ∀ h' T dp W, kp (sD c) h h' → mS h' c M I O A L OU G (sv L ++ T) dp → pI (sv L) G T dp → W ≠ [] → W.Pairwise pO → (∀ g ∈ W, g ∈ G ∧ g.1 / 2 ∉ sv L ++ T ∧ ¬ nd1 (sv L ++ T) g) → (∀ g ∈ G, g.1 / 2 ∈ T ∨ g ∈ W) → h'.1 6 1 = nI W.length → wt (h'.1 7) G W → T.length + W.length = A → f 0 h') :
    sx_X sx_w 40 0 [some (.ref 6), some (.ref c), none, none, none] [] h (sx_qi f) := by
  obtain ⟨q0, -⟩ := cc_sh hc
  obtain ⟨⟨wM, wI, wO, wA⟩, ⟨lL, lO, lG⟩, wL, wG, wO2⟩ := w
  have w : wf M I O A L OU G := ⟨⟨wM, wI, wO, wA⟩, ⟨lL, lO, lG⟩, wL, wG, wO2⟩
  have hc' := hc
  unfold cc at hc'
  have key : ∀ (e d : Nat) (T : List Nat) (dp : Nat → Nat) (W : List gt) (h0 : sx_H) (o : Option Value), d + e = A + 1 → kp (sD c) h h0 → mS h0 c M I O A L OU G (sv L ++ T) dp → pS (sv L) G d T dp W → h0.1 6 1 = nI W.length → wt (h0.1 7) G W → T.length + W.length = A → d ≤ T.length + 1 →
      sx_X sx_w 40 14 [some (.ref 6), some (.ref c), some (.int (nI (sv L ++ T).length)), some (.int (nI d)), o] [] h0 (sx_qi f) := by
    intro e
    induction e with
    | zero =>
      intro d T dp W h0 o hd k0 m0 p0 h61 hw7 hl hdT
      refine g_40_14 h0 6 c _ _ o ⟨q0, ?_⟩
      rw [m0.1.1.2.1, h61]
      refine pk_lt A d (fun _ => ⟨rfl, ⟨fun z => absurd ?_ z, fun _ => ⟨Or.inr rfl, ?_⟩⟩⟩) (fun z => (by omega))
      · rw [show W.length = 0 by omega]; rfl
      · have hW : W = [] := List.length_eq_zero_iff.mp (by omega)
        refine H1 h0 T dp k0 m0 p0.1 (fun g hg => ?_) (by omega)
        rcases p0.2.2.2.2.1 g hg with z | z
        · exact z
        · rw [hW] at z; cases z
    | succ e ih =>
      intro d T dp W h0 o hd k0 m0 p0 h61 hw7 hl hdT
      refine g_40_14 h0 6 c _ _ o ⟨q0, ?_⟩
      rw [m0.1.1.2.1, h61]
      refine pk_lt A d (fun z => (by omega)) (fun _ => ⟨rfl, ?_⟩)
      refine pk_le (y := 0) W.length 0 (fun z => ⟨rfl, ⟨fun z1 => absurd ?_ z1, fun _ => ⟨Or.inr rfl, ?_⟩⟩⟩) (fun z => ⟨rfl, rfl, ?_⟩)
      · rw [show W.length = 0 by omega]; rfl
      · have hW : W = [] := List.length_eq_zero_iff.mp (by omega)
        refine H1 h0 T dp k0 m0 p0.1 (fun g hg => ?_) (by omega)
        rcases p0.2.2.2.2.1 g hg with z | z
        · exact z
        · rw [hW] at z; cases z
      · refine e_settleDepth hc m0 w hst p0 h61 hw7 hl (fun h1 T1 dp1 W1 k1 m1 p1 h161 hw1 hl1 hle hno => ⟨rfl, ?_⟩)
        rw [h161]
        refine ⟨fun y => ?_, fun y => ⟨rfl, ?_⟩⟩
        · rw [nI_1]
          have hne : W1.length ≠ W.length := fun q => y (by rw [q])
          exact ih (d + 1) T1 dp1 W1 h1 _ (by omega) (k0.tr k1) m1 p1 h161 hw1 hl1 (by omega)
        · have e1 : W1.length = W.length := (nI_eq (by omega) (by omega)).mp y
          refine ⟨fun _ => ⟨Or.inl rfl, ?_⟩, fun z1 => absurd z1 (nI_ne0 (by omega) (by omega))⟩
          refine H0 h1 T1 dp1 W1 (k0.tr k1) m1 p1.1 (fun q => by rw [q] at e1; exact absurd e1 (by simp; omega)) p1.2.2.1 (fun g hg => ⟨(p1.2.2.2.1 g hg).1, (p1.2.2.2.1 g hg).2.1, hno e1 g hg⟩) p1.2.2.2.2.1 h161 hw1 hl1
  refine g_40_0 h 6 c ⟨rfl, ?_⟩
  refine e_lineUp (S := sv L) hc m wM (by omega) (pw_dG wG.2) (fun g hg => ?_) (by rw [sv_len]; omega) (fun h1 W k1 h61 hw7 hp hm => ⟨q0, ?_⟩)
  · obtain ⟨a, b, c⟩ := sv_gate w hg
    exact ⟨b, c, a⟩
  · have hlW : W.length = A := by
      have a1 := (pw_nodup hp).length_le_of_subset (fun a ha => (hm a).mp ha)
      have nG : G.Nodup := List.Pairwise.imp (fun {a b} (hab : a.1 / 2 ≠ b.1 / 2) e => hab (by rw [e])) wG.2
      have a2 := nG.length_le_of_subset (fun a ha => (hm a).mpr ha)
      omega
    have m1 : mS h1 c M I O A L OU G (sv L) (fun _ => 0) := m.eq (fun j hj => k1.i (by unfold s67; omega))
    rw [m1.1.1.1, nI_1]
    have := key A 1 [] (fun _ => 0) W h1 none (by omega) (k1.mo (fun b hb => by unfold s67 at hb; unfold sD; omega)) (by rw [List.append_nil]; exact m1) (pS_0 w hp hm) h61 hw7 (by simp; exact hlW) (by simp)
    rw [List.append_nil, sv_len, lL] at this
    exact this
