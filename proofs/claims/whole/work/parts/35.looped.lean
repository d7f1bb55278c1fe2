-- THE LEAST GATE THAT NEEDS ITSELF
def lpd (G : List gt) (u : Nat) : Prop := ∃ g ∈ G, g.1 / 2 = u ∧ rp G u u ∧ ∀ g' ∈ G, rp G (g'.1 / 2) (g'.1 / 2) → u ≤ g'.1 / 2
theorem lpd_un {G : List gt} {u v : Nat} (h1 : lpd G u) (h2 : lpd G v) : u = v := by
  obtain ⟨g, a1, a2, a3, a4⟩ := h1
  obtain ⟨k, b1, b2, b3, b4⟩ := h2
  have c1 := a4 k b1 (by rw [b2]; exact b3)
  have c2 := b4 g a1 (by rw [a2]; exact a3)
  omega
theorem e_leastLooped {h : sx_H} {c M I O A : Nat} {L OU T : List Nat} {G W : List gt} {dp : Nat → Nat} {f : Int32 → sx_H → Prop} (hc : cc c) (m : mS h c M I O A L OU G (sv L ++ T) dp) (p : pI (sv L) G T dp) (w : wf M I O A L OU G) (hst : ∀ g ∈ G, stn L G (gM g / 2) ∧ stn L G (gm g / 2))
    (hW0 : W ≠ []) (hW : W.Pairwise pO) (hWn : ∀ g ∈ W, g ∈ G ∧ g.1 / 2 ∉ sv L ++ T ∧ ¬ nd1 (sv L ++ T) g) (hWG : ∀ g ∈ G, g.1 / 2 ∈ T ∨ g ∈ W) (h61 : h.1 6 1 = nI W.length) (hw7 : wt (h.1 7) G W) (hlen : T.length + W.length = A)
    (H : ∀ u, lpd G u → u ≤ 1000 → ∀ h', kp s689 h h' → f (nI u) h') : sx_X sx_w 43 0 [some (.ref 6), some (.ref c), none, none] [] h (sx_qi f) := by
  obtain ⟨q0, q1, q2, q3, q4, q5, q6, q7, q8, q9, q10⟩ := cc_sh hc
  have hc' := hc
  unfold cc at hc'
  have wG := w.2.2.2.1
  have wA := w.1.2.2.2
  have lG := w.2.1.2.2
  have wM := w.1.1
  have wI := w.1.2.1
  have lL := w.2.1.1
  have hdG := pw_dG wG.2
  have hsv : ∀ g ∈ G, g.1 / 2 ∉ sv L := fun g hg => (sv_gate w hg).1
  have hlS : (sv L ++ T).length ≤ 315 := by rw [List.length_append, sv_len]; omega
  have ex : ∃ g ∈ W, rp G (g.1 / 2) (g.1 / 2) := by
    refine loop_ex hW0 (fun g hg => ?_)
    obtain ⟨hgG, hgS, hn⟩ := hWn g hg
    have key : ∀ u, ed G (g.1 / 2) u → stn L G u → u ∉ sv L ++ T → ∃ g' ∈ W, ed G (g.1 / 2) (g'.1 / 2) := fun u he hs hu => by
      rcases hs with z | ⟨g', hg', e⟩
      · exact absurd (List.mem_append_left _ z) hu
      · rcases hWG g' hg' with z | z
        · exact absurd (List.mem_append_right _ (e ▸ z)) hu
        · exact ⟨g', z, e ▸ he⟩
    by_cases z : gM g / 2 ∈ sv L ++ T
    · exact key (gm g / 2) ⟨g, hgG, rfl, Or.inr rfl⟩ (hst g hgG).2 (fun q => hn ⟨z, q⟩)
    · exact key (gM g / 2) ⟨g, hgG, rfl, Or.inl rfl⟩ (hst g hgG).1 z
  have key : ∀ (rest : List gt) (i : Nat) (h0 : sx_H) (o : Option Value), W.drop i = rest → (∀ j g, j < i → W[j]? = some g → ¬ rp G (g.1 / 2) (g.1 / 2)) → kp s689 h h0 → h0.1 6 1 = h.1 6 1 → sx_X sx_w 43 2 [some (.ref 6), some (.ref c), some (.int (nI i)), o] [] h0 (sx_qi f) := by
    intro rest
    induction rest with
    | nil =>
      intro i h0 o hd hno k0 e1
      obtain ⟨g, hg, hr⟩ := ex
      obtain ⟨j, hj, rfl⟩ := List.mem_iff_getElem.mp hg
      have := dropn hd
      exact absurd hr (hno j _ (by omega) (List.getElem?_eq_getElem hj))
    | cons g rest ih =>
      intro i h0 o hd hno k0 e1
      obtain ⟨hi, hgi, hd'⟩ := dropc hd
      obtain ⟨k, hk, ek⟩ := hw7 i g hgi
      have hk' := (List.getElem?_eq_some_iff.mp hk).1
      obtain ⟨hgG, hgS, -⟩ := hWn g (List.mem_of_getElem? hgi)
      have m0 : mS h0 c M I O A L OU G (sv L ++ T) dp := m.eq (fun j hj => k0.i (by unfold s689; omega))
      refine g_43_2 h0 6 c _ o ⟨rfl, ?_⟩
      rw [e1, h61]
      refine pk_le W.length i (fun z => (by omega)) (fun _ => ⟨rfl, e_pick (a := 6 + 1) (n := 300) rfl (by decide) ?_⟩)
      rw [pk_nI (by omega) (by decide), k0.i (show ¬ s689 (6 + 1) by unfold s689; decide), show h.1 (6 + 1) i = nI k from ek]
      refine ⟨rfl, e_needsItself hc m0 p w hlS hst hk hgS (fun hr h1 k1 e2 => ⟨fun y => absurd y (by decide), fun _ => ⟨q0, ?_⟩⟩) (fun hr h1 k1 e2 => ⟨fun _ => ?_, fun y => absurd rfl y⟩)⟩
      · refine e_pick q3 (by decide) ?_
        have hgok := wG.1 g hgG
        rw [pk_nI (by omega) (by decide), (k0.tr k1).i (show ¬ s689 (c + 3) by unfold s689; omega), (m.1.2.2.2 k g hk).1, sh_half (by omega)]
        refine H _ ⟨g, hgG, rfl, hr, fun g' hg' hr' => ?_⟩ (by omega) h1 (k0.tr k1)
        have hgW : g' ∈ W := by
          rcases hWG g' hg' with z | z
          · exact absurd hr' (rp_no p hdG hsv hg' (List.mem_append_right _ z))
          · exact z
        obtain ⟨j, hj, rfl⟩ := List.mem_iff_getElem.mp hgW
        obtain ⟨hi', ei⟩ := List.getElem?_eq_some_iff.mp hgi
        rcases Nat.lt_trichotomy j i with q | q | q
        · exact absurd hr' (hno j _ q (List.getElem?_eq_getElem hj))
        · subst q; rw [ei]; omega
        · have := List.pairwise_iff_getElem.mp hW i j hi' hj q
          rw [ei] at this
          unfold pO at this
          omega
      · rw [nI_1]
        refine ih (i + 1) h1 _ hd' (fun j g' hj hg' => ?_) (k0.tr k1) (e2.trans e1)
        by_cases q : j < i
        · exact hno j g' q hg'
        · have : j = i := by omega
          rw [this, hgi] at hg'
          cases hg'
          exact hr
  exact g_43_0 h 6 c (key W 0 h none rfl (fun j g hj => absurd hj (Nat.not_lt_zero _)) kp.rf rfl)
/-- cells that settling may change -/
def sE (c : Nat) : Nat → Prop := fun b => b = 1 ∨ (6 ≤ b ∧ b ≤ 9) ∨ (c ≤ b ∧ b ≤ c + 10)
theorem e_gatesSettle {h : sx_H} {c M I O A : Nat} {L OU : List Nat} {G : List gt} {f : Int32 → sx_H → Prop} (hc : cc c) (r : rI h c M I O A L OU G) (w : wf M I O A L OU G) (hst : ∀ g ∈ G, stn L G (gM g / 2) ∧ stn L G (gm g / 2))
    (H1 : ∀ h' T dp, kp (sD c) h h' → mS h' c M I O A L OU G (sv L ++ T) dp → pI (sv L) G T dp → (∀ g ∈ G, g.1 / 2 ∈ T) → T.length = A → (∀ u, ¬ lpd G u) → f 1 h')
    (H0 : ∀ u, lpd G u → ∀ h', kp (sE c) h h' → h'.1 1 1 = 8 → h'.1 1 2 = nI u → f 0 h') :
    sx_X sx_w 74 0 [some (.ref 0), some (.ref c)] [] h (sx_qi f) := by
  refine g_74_0 h 0 c ⟨rfl, rfl, e_settle hc (rI_mS w r) w hst (fun h1 T dp k1 m1 p1 hT hl => ⟨fun _ => ⟨Or.inr rfl, H1 h1 T dp k1 m1 p1 hT hl (fun u hu => ?_)⟩, fun y => absurd y (by decide)⟩) (fun h1 T dp W k1 m1 p1 hW0 hW hWn hWG h61 hw7 hl => ⟨fun y => absurd rfl y, fun _ => ⟨rfl, rfl, rfl, ?_⟩⟩)⟩
  · obtain ⟨g, a1, a2, a3, -⟩ := hu
    subst a2
    exact rp_no p1 (pw_dG w.2.2.2.1.2) (fun g hg => (sv_gate w hg).1) a1 (List.mem_append_right _ (hT g a1)) a3
  · refine e_leastLooped hc m1 p1 w hst hW0 hW hWn hWG h61 hw7 hl (fun u hu hu1 h2 k2 => ⟨rfl, e_fail (fun h3 k3 e1 e2 => ⟨fun _ => ⟨Or.inl rfl, H0 u hu h3 ?_ e1 e2⟩, fun y => absurd rfl y⟩)⟩)
    exact ((k1.mo (fun b hb => by unfold sD at hb; unfold sE; omega)).tr (k2.mo (fun b hb => by unfold s689 at hb; unfold sE; omega))).tr (k3.mo (fun b hb => by unfold s1 at hb; unfold sE; omega))
