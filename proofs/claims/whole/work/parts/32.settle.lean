-- THE CLASS SETTLES: nodes for gates, depth by depth
theorem gm_le (g : gt) : gm g ≤ gM g := by unfold gm gM; omega
def rS (h : sx_H) (c M I O A : Nat) (L OU : List Nat) (G : List gt) : Prop :=
  (h.1 c 0 = nI I ∧ h.1 c 1 = nI A ∧ h.1 c 2 = nI O ∧ h.1 c 3 = nI M) ∧ (∀ i x, L[i]? = some x → h.1 (c + 1) i = nI x) ∧ (∀ i x, OU[i]? = some x → h.1 (c + 2) i = nI x) ∧
  (∀ k g, G[k]? = some g → h.1 (c + 3) k = nI g.1 ∧ h.1 (c + 4) k = nI (gM g) ∧ h.1 (c + 5) k = nI (gm g))
theorem rS.eq {h h' : sx_H} {c M I O A : Nat} {L OU : List Nat} {G : List gt} (x : rS h c M I O A L OU G) (e : ∀ j, j ≤ 5 → h'.1 (c + j) = h.1 (c + j)) : rS h' c M I O A L OU G := by
  have e0 : h'.1 c = h.1 c := e 0 (by omega)
  unfold rS
  rw [e0, e 1 (by omega), e 2 (by omega), e 3 (by omega), e 4 (by omega), e 5 (by omega)]
  exact x
def nd3 (row : Nat → Int32) (S : List Nat) (G : List gt) : Prop := ∀ v, v ≤ 1000 →
  (∃ n, S[n]? = some v ∧ row v = nI n) ∨ (v ∉ S ∧ ∃ k g, G[k]? = some g ∧ g.1 / 2 = v ∧ row v = nI (315 + k)) ∨ (v ∉ S ∧ (∀ g ∈ G, g.1 / 2 ≠ v) ∧ row v = 0)
theorem ix_of {S : List Nat} {n v : Nat} (h : S.Nodup) (e : S[n]? = some v) : S.idxOf v = n := by
  obtain ⟨hn, rfl⟩ := List.getElem?_eq_some_iff.mp e
  exact h.idxOf_getElem n hn
theorem ix_get {S : List Nat} {v : Nat} (h : v ∈ S) : S[S.idxOf v]? = some v := by
  rw [List.getElem?_eq_getElem (List.idxOf_lt_length_of_mem h), List.getElem_idxOf]
theorem nd3.at {row : Nat → Int32} {S : List Nat} {G : List gt} {v : Nat} (h : nd3 row S G) (hS : S.Nodup) (hv : v ∈ S) (hv' : v ≤ 1000) : row v = nI (S.idxOf v) := by
  rcases h v hv' with ⟨n, e, q⟩ | ⟨q, -⟩ | ⟨q, -⟩
  · rw [q, ix_of hS e]
  · exact absurd hv q
  · exact absurd hv q
def nl (S : List Nat) (x : Nat) : Nat := 2 * S.idxOf (x / 2) + x % 2
theorem nl_app {S : List Nat} {u x : Nat} (h : x / 2 ∈ S) : nl (S ++ [u]) x = nl S x := by unfold nl; rw [ix_app h]
theorem nl_lt {S : List Nat} {x : Nat} (h : x / 2 ∈ S) : nl S x < 2 * S.length := by
  unfold nl
  have := List.idxOf_lt_length_of_mem h
  omega
theorem nl_ok {row : Nat → Int32} {S : List Nat} {G : List gt} {M x : Nat} (h : nd3 row S G) (hS : S.Nodup) (h0 : S[0]? = some 0) (hM : M ≤ 1000) (hx : x ≤ 2 * M + 1) (hm : x / 2 ∈ S) (hl : S.length ≤ 315) : nlI row M (nI x) = nI (nl S x) := by
  have hr := h.at hS hm (by omega)
  have hlt := List.idxOf_lt_length_of_mem hm
  unfold nlI
  rw [nI_toInt (by omega)]
  simp only [Int.toNat_natCast]
  have hcond : (0 : Int) ≤ (x : Int) ∧ (x : Int) ≤ 2 * M + 1 ∧ (¬ row (x / 2) = 0 ∨ (x : Int) ≤ 1) := by
    refine ⟨by omega, by omega, ?_⟩
    by_cases q : x / 2 = 0
    · exact Or.inr (by omega)
    · refine Or.inl (fun z => ?_)
      rw [hr] at z
      have hz : S.idxOf (x / 2) = 0 := (nI_eq (b := 0) (by omega) (by decide)).mp z
      have h2 := ix_get hm
      rw [hz, h0] at h2
      exact q (Option.some.inj h2).symm
  rw [if_pos hcond, hr, an_1 (by omega), show (2 : Int32) = nI 2 from rfl, pk_mul, nI_add]
  rfl
def mS (h : sx_H) (c M I O A : Nat) (L OU : List Nat) (G : List gt) (S : List Nat) (dp : Nat → Nat) : Prop :=
  rS h c M I O A L OU G ∧ nd3 (h.1 (c + 7)) S G ∧ (∀ n v, S[n]? = some v → h.1 (c + 6) n = nI (dp v)) ∧
  (∀ g ∈ G, g.1 / 2 ∈ S → h.1 (c + 8) (S.idxOf (g.1 / 2)) = nI (max (nl S (gM g)) (nl S (gm g))) ∧ h.1 (c + 9) (S.idxOf (g.1 / 2)) = nI (min (nl S (gM g)) (nl S (gm g))))
theorem mS.eq {h h' : sx_H} {c M I O A : Nat} {L OU : List Nat} {G : List gt} {S : List Nat} {dp : Nat → Nat} (x : mS h c M I O A L OU G S dp) (e : ∀ j, j ≤ 9 → h'.1 (c + j) = h.1 (c + j)) : mS h' c M I O A L OU G S dp := by
  obtain ⟨x1, x2, x3, x4⟩ := x
  refine ⟨x1.eq (fun j hj => e j (by omega)), ?_, ?_, ?_⟩
  · rw [e 7 (by omega)]; exact x2
  · rw [e 6 (by omega)]; exact x3
  · rw [e 8 (by omega), e 9 (by omega)]; exact x4
/-- a circuit's cells, and the settler's waiting ones -/
def sD (c : Nat) : Nat → Prop := fun b => b = 6 ∨ b = 7 ∨ (c ≤ b ∧ b ≤ c + 10)
theorem kD {h : sx_H} {c a j : Nat} {row : Nat → Int32} (hj : a = c + j) (h10 : j ≤ 10) : kp (sD c) h (hw h a row) := kp_hw (S := sD c) (by unfold sD; omega)
theorem e_settleGate {h : sx_H} {c M I O A k d : Nat} {L OU S : List Nat} {G : List gt} {dp : Nat → Nat} {g : gt} {f : sx_H → Prop} (hc : cc c) (m : mS h c M I O A L OU G S dp) (hG : dG G) (hM : M ≤ 1000) (hgM : gM g ≤ 2 * M + 1) (hown : g.1 ≤ 2 * M + 1) (hk : G[k]? = some g) (hk3 : k < 300) (hn : nd1 S g) (hu : g.1 / 2 ∉ S) (hS : S.Nodup) (h0 : S[0]? = some 0) (hl : S.length < 315) (hnd : ∀ g' ∈ G, g'.1 / 2 ∈ S → nd1 S g')
    (H : ∀ h', kp (sD c) h h' → h'.1 6 = h.1 6 → h'.1 7 = h.1 7 → mS h' c M I O A L OU G (S ++ [g.1 / 2]) (va_up dp (g.1 / 2) d) → f h') :
    sx_X sx_w 17 0 [some (.ref c), some (.int (nI k)), some (.int (nI S.length)), some (.int (nI d)), none, none] [] h (sx_qv f) := by
  obtain ⟨q0, q1, q2, q3, q4, q5, q6, q7, q8, q9, q10⟩ := cc_sh hc
  have hc' := hc
  unfold cc at hc'
  obtain ⟨m1, m2, m3, m4⟩ := m
  obtain ⟨r3, r4, r5⟩ := m1.2.2.2 k g hk
  have hgm : gm g ≤ 2 * M + 1 := by have := gm_le g; omega
  have b1 := nl_lt hn.1
  have b2 := nl_lt hn.2
  refine g_17_0 h c _ _ _ ⟨q0, e_pick q4 (by decide) ?_⟩
  rw [pk_nI hk3 (by decide), r4]
  refine ⟨q0, e_nodeLiteral q0 q7 m1.1.2.2.2 hM ⟨q0, e_pick q5 (by decide) ?_⟩⟩
  rw [pk_nI hk3 (by decide), r5]
  refine ⟨q0, e_nodeLiteral q0 q7 m1.1.2.2.2 hM ⟨q0, e_store (n := 315) rfl q8 (by decide) ⟨q0, e_store (n := 315) rfl q9 (by decide) ⟨q0, e_store (n := 315) rfl q6 (by decide) ⟨q0, q0, e_pick q3 (by decide) ?_⟩⟩⟩⟩⟩
  rw [nl_ok m2 hS h0 hM hgM hn.1 (by omega), nl_ok m2 hS h0 hM hgm hn.2 (by omega), mx_nI (by omega) (by omega), mn_nI (by omega) (by omega), st_nI hl (by decide), st_nI hl (by decide), st_nI hl (by decide), pk_nI hk3 (by decide)]
  generalize e : hw (hw (hw h (c + 8) _) (c + 9) _) (c + 6) _ = h1
  have d1 : ∀ b, b ≠ c + 8 → b ≠ c + 9 → b ≠ c + 6 → h1.1 b = h.1 b := fun b z1 z2 z3 => by rw [← e, hw_ne _ _ z3, hw_ne _ _ z2, hw_ne _ _ z1]
  rw [d1 (c + 3) (by omega) (by omega) (by omega), r3, sh_half (by omega)]
  refine e_store (n := 1001) rfl q7 (by decide) ?_
  rw [st_nI (by omega) (by decide), d1 (c + 7) (by omega) (by omega) (by omega)]
  have e8 : h1.1 (c + 8) = va_up (h.1 (c + 8)) S.length (nI (max (nl S (gM g)) (nl S (gm g)))) := by rw [← e, hw_ne _ _ (by omega), hw_ne _ _ (by omega), hw_self]
  have e9 : h1.1 (c + 9) = va_up (h.1 (c + 9)) S.length (nI (min (nl S (gM g)) (nl S (gm g)))) := by rw [← e, hw_ne _ _ (by omega), hw_self, hw_ne _ _ (by omega)]
  have e6 : h1.1 (c + 6) = va_up (h.1 (c + 6)) S.length (nI d) := by rw [← e, hw_self, hw_ne _ _ (by omega), hw_ne _ _ (by omega)]
  have k1 : kp (sD c) h h1 := by rw [← e]; exact ((kD (j := 8) rfl (by decide)).tr (kD (j := 9) rfl (by decide))).tr (kD (j := 6) rfl (by decide))
  refine H _ (k1.tr (kD (j := 7) rfl (by decide))) (by rw [hw_ne _ _ (by omega), d1 6 (by omega) (by omega) (by omega)]) (by rw [hw_ne _ _ (by omega), d1 7 (by omega) (by omega) (by omega)]) ⟨m1.eq (fun j hj => by rw [hw_ne _ _ (by omega), d1 (c + j) (by omega) (by omega) (by omega)]), ?_, ?_, ?_⟩
  · rw [hw_self]
    intro v hv
    by_cases ev : v = g.1 / 2
    · subst ev
      exact Or.inl ⟨S.length, app_last, va_up_self _ _ _⟩
    · rw [va_up_ne _ _ ev]
      have nm : v ∉ S → v ∉ S ++ [g.1 / 2] := fun z q => (List.mem_append.mp q).elim z (fun q => ev (List.mem_singleton.mp q))
      rcases m2 v hv with ⟨n, e1, e2⟩ | ⟨e1, e2⟩ | ⟨e1, e2⟩
      · exact Or.inl ⟨n, app_get e1, e2⟩
      · exact Or.inr (Or.inl ⟨nm e1, e2⟩)
      · exact Or.inr (Or.inr ⟨nm e1, e2⟩)
  · rw [hw_ne _ _ (by omega), e6]
    intro n v hv
    rcases get_app hv with ⟨z1, z2⟩ | ⟨z1, z2⟩
    · rw [va_up_ne _ _ (by omega), va_up_ne _ _ (show v ≠ g.1 / 2 from fun q => hu (q ▸ List.mem_of_getElem? z2))]
      exact m3 n v z2
    · rw [z1, z2, va_up_self, va_up_self]
  · rw [hw_ne _ _ (by omega), hw_ne _ _ (by omega), e8, e9]
    intro g' hg' hm
    rcases List.mem_append.mp hm with hm | hm
    · have hlt := List.idxOf_lt_length_of_mem hm
      obtain ⟨n1, n2⟩ := hnd g' hg' hm
      rw [ix_app hm, va_up_ne _ _ (by omega), va_up_ne _ _ (by omega), nl_app n1, nl_app n2]
      exact m4 g' hg' hm
    · have eg := hG g' hg' g (List.mem_of_getElem? hk) (List.mem_singleton.mp hm)
      subst eg
      rw [ix_last hu, va_up_self, va_up_self, nl_app hn.1, nl_app hn.2]
      exact ⟨rfl, rfl⟩
theorem e_stands {sh : sx_S} {h : sx_H} {c x : Nat} {Sp R : List Nat} {G : List gt} {f : Int32 → sx_H → Prop} (hk : (sh.1 c).1 = 5) (hs : sh.1 (c + 7) = (1, 1001)) (hd : nd3 (h.1 (c + 7)) (Sp ++ R) G) (hS : (Sp ++ R).Nodup) (hl : (Sp ++ R).length ≤ 315) (hG3 : G.length ≤ 300) (hx : x ≤ 2001) (ho : x / 2 ∈ Sp ++ R ∨ ∃ g ∈ G, g.1 / 2 = x / 2)
    (H1 : x / 2 ∈ Sp → f 1 h) (H0 : x / 2 ∉ Sp → f 0 h) : sx_X sh 16 0 [some (.ref c), some (.int (nI x)), some (.int (nI Sp.length))] [] h (sx_qi f) := by
  refine g_16_0 h c _ _ ⟨hk, e_pick hs (by decide) ?_⟩
  rw [sh_half (by omega), pk_nI (by omega) (by decide)]
  have hll : Sp.length ≤ 315 := by rw [List.length_append] at hl; omega
  by_cases q : x / 2 ∈ Sp ++ R
  · have hlt := List.idxOf_lt_length_of_mem q
    rw [hd.at hS q (by omega)]
    rw [List.idxOf_append] at hlt ⊢
    by_cases q2 : x / 2 ∈ Sp
    · rw [if_pos q2] at hlt ⊢
      have := List.idxOf_lt_length_of_mem q2
      exact pk_le Sp.length (Sp.idxOf (x / 2)) (fun z => (by omega)) (fun z => ⟨Or.inr rfl, H1 q2⟩)
    · rw [if_neg q2] at hlt ⊢
      exact pk_le Sp.length (R.idxOf (x / 2) + Sp.length) (fun z => ⟨Or.inl rfl, H0 q2⟩) (fun z => (by omega))
  · have q2 : x / 2 ∉ Sp := fun z => q (List.mem_append_left _ z)
    rcases hd (x / 2) (by omega) with ⟨n, e, -⟩ | ⟨-, k, g, e1, e2, e3⟩ | ⟨-, e1, -⟩
    · exact absurd (List.mem_of_getElem? e) q
    · have := (List.getElem?_eq_some_iff.mp e1).1
      rw [e3]
      exact pk_le Sp.length (315 + k) (fun z => ⟨Or.inl rfl, H0 q2⟩) (fun z => (by omega))
    · obtain ⟨g, hg, eg⟩ := ho.resolve_left q
      exact absurd eg (e1 g hg)
theorem un_neg {n : Nat} (h : n < 315) : ¬ (-1 : Int32) < nI n - 315 := by
  intro z
  rw [Int32.lt_iff_toInt_lt, show (315 : Int32) = nI 315 from rfl, pk_sub_toInt (by omega) (by omega)] at z
  have : (-1 : Int32).toInt = -1 := rfl
  omega
theorem un_pos {k : Nat} (h : k < 2 ^ 30) : (-1 : Int32) < nI (315 + k) - 315 ∧ nI (315 + k) - 315 = nI k := by
  have e : nI (315 + k) - 315 = nI k := by
    rw [show (315 : Int32) = nI 315 from rfl, pk_sub (by omega), Nat.add_sub_cancel_left]
  rw [e]
  refine ⟨?_, rfl⟩
  rw [Int32.lt_iff_toInt_lt, nI_toInt (by omega)]
  have : (-1 : Int32).toInt = -1 := rfl
  omega
theorem e_unsettled {sh : sx_S} {h : sx_H} {c v : Nat} {S : List Nat} {G : List gt} {f : Int32 → sx_H → Prop} (hk : (sh.1 c).1 = 5) (hs : sh.1 (c + 7) = (1, 1001)) (hd : nd3 (h.1 (c + 7)) S G) (hl : S.length ≤ 315) (hG : G.length ≤ 300) (hv : v ≤ 1000)
    (H1 : ∀ k g, G[k]? = some g → g.1 / 2 = v → v ∉ S → f (nI k) h) (H0 : (v ∈ S ∨ ∀ g ∈ G, g.1 / 2 ≠ v) → f (-1) h) : sx_X sh 15 0 [some (.ref c), some (.int (nI v))] [] h (sx_qi f) := by
  refine g_15_0 h c _ ⟨hk, e_pick hs (by decide) ?_⟩
  rw [pk_nI (by omega) (by decide)]
  rcases hd v hv with ⟨n, e, q⟩ | ⟨e0, k, g, e1, e2, e3⟩ | ⟨-, e1, e2⟩
  · have := (List.getElem?_eq_some_iff.mp e).1
    rw [q, if_neg (un_neg (by omega))]
    exact H0 (Or.inl (List.mem_of_getElem? e))
  · have := (List.getElem?_eq_some_iff.mp e1).1
    have u := un_pos (k := k) (by omega)
    rw [e3, if_pos u.1, u.2]
    exact H1 k g e1 e2 e0
  · have u := un_neg (n := 0) (by omega)
    rw [nI_0] at u
    rw [e2, if_neg u]
    exact H0 (Or.inr e1)
/-- the waiting row -/
def wt (row : Nat → Int32) (G W : List gt) : Prop := ∀ j g, W[j]? = some g → ∃ k, G[k]? = some g ∧ row j = nI k
theorem wt.app {row : Nat → Int32} {G W : List gt} {g : gt} {k : Nat} (h : wt row G W) (hk : G[k]? = some g) : wt (va_up row W.length (nI k)) G (W ++ [g]) := by
  intro j g' hj
  rcases get_app hj with ⟨z1, z2⟩ | ⟨z1, z2⟩
  · rw [va_up_ne _ _ (by omega)]; exact h j g' z2
  · rw [z1, z2, va_up_self]; exact ⟨k, hk, rfl⟩
def s67 : Nat → Prop := fun b => b = 6 ∨ b = 7
theorem pw_nodup {W : List gt} (h : W.Pairwise pO) : W.Nodup := List.Pairwise.imp (fun {a b} (hab : pO a b) e => by subst e; exact Nat.lt_irrefl _ hab) h
theorem e_lineUp {h : sx_H} {c M I O A : Nat} {L OU S : List Nat} {G : List gt} {dp : Nat → Nat} {f : sx_H → Prop} (hc : cc c) (m : mS h c M I O A L OU G S dp) (hM : M ≤ 1000) (hG : G.length ≤ 300) (hdG : dG G) (hown : ∀ g ∈ G, 1 ≤ g.1 / 2 ∧ g.1 / 2 ≤ M ∧ g.1 / 2 ∉ S) (hl : S.length ≤ 315)
    (H : ∀ h' W, kp s67 h h' → h'.1 6 1 = nI W.length → wt (h'.1 7) G W → W.Pairwise pO → (∀ g, g ∈ W ↔ g ∈ G) → f h') :
    sx_X sx_w 41 0 [some (.ref 6), some (.ref c), none, none] [] h (sx_qv f) := by
  obtain ⟨q0, q1, q2, q3, q4, q5, q6, q7, q8, q9, q10⟩ := cc_sh hc
  have hc' := hc
  unfold cc at hc'
  have key : ∀ (e v : Nat) (W : List gt) (h0 : sx_H) (o : Option Value), v + e = M + 1 → kp s67 h h0 → h0.1 6 1 = nI W.length → wt (h0.1 7) G W → W.Pairwise pO → (∀ g, g ∈ W ↔ (g ∈ G ∧ g.1 / 2 < v)) → sx_X sx_w 41 7 [some (.ref 6), some (.ref c), some (.int (nI v)), o] [] h0 (sx_qv f) := by
    intro e
    induction e with
    | zero =>
      intro v W h0 o hv k0 h61 hw0 hp hm
      refine g_41_7 h0 6 c _ o ⟨q0, ?_⟩
      rw [k0.i (show ¬ s67 c by unfold s67; omega), m.1.1.2.2.2]
      refine pk_lt M v (fun _ => H h0 W k0 h61 hw0 hp (fun g => ?_)) (fun z => (by omega))
      rw [hm g]
      exact ⟨fun z => z.1, fun z => ⟨z, by have := hown g z; omega⟩⟩
    | succ e ih =>
      intro v W h0 o hv k0 h61 hw0 hp hm
      refine g_41_7 h0 6 c _ o ⟨q0, ?_⟩
      rw [k0.i (show ¬ s67 c by unfold s67; omega), m.1.1.2.2.2]
      refine pk_lt M v (fun z => (by omega)) (fun _ => ⟨q0, ?_⟩)
      refine e_unsettled (S := S) (G := G) q0 q7 (by rw [k0.i (show ¬ s67 (c + 7) by unfold s67; omega)]; exact m.2.1) hl hG (by omega) (fun k g hk eg _ => ?_) (fun hno => ?_)
      · have hk' := (List.getElem?_eq_some_iff.mp hk).1
        refine ⟨fun z => absurd z (nI_pos (by omega)), fun _ => ⟨rfl, rfl, ?_⟩⟩
        have hgG := List.mem_of_getElem? hk
        have hlast : ∀ a ∈ W, pO a g := fun a ha => by have := (hm a).mp ha; unfold pO; omega
        have hp' : (W ++ [g]).Pairwise pO := List.pairwise_append.mpr ⟨hp, List.pairwise_singleton _ _, fun a ha b hb => by rw [List.mem_singleton.mp hb]; exact hlast a ha⟩
        have hlen : (W ++ [g]).length ≤ G.length := (pw_nodup hp').length_le_of_subset (fun a ha => by
          rcases List.mem_append.mp ha with q | q
          · exact ((hm a).mp q).1
          · rw [List.mem_singleton.mp q]; exact hgG)
        rw [List.length_append, List.length_singleton] at hlen
        rw [h61]
        refine e_store (a := 6 + 1) (n := 300) rfl rfl (by decide) ⟨rfl, ⟨rfl, rfl⟩, ?_⟩
        rw [st_nI (by omega) (by decide)]
        have e6 : (hw h0 (6 + 1) (va_up (h0.1 (6 + 1)) W.length (nI k))).1 6 = h0.1 6 := hw_ne _ _ (by decide)
        rw [e6, h61, nI_1, nI_1]
        refine ih (v + 1) (W ++ [g]) _ _ (by omega) ((k0.tr (kp_hw (S := s67) (Or.inr rfl))).tr (kp_hw (S := s67) (Or.inl rfl))) ?_ ?_ hp' (fun a => ?_)
        · dsimp only
          rw [sx_u_eq, va_up_self, List.length_append, List.length_singleton]
        · dsimp only
          rw [sx_u_ne (by decide), show 6 + 1 = 7 from rfl, hw_self]
          exact hw0.app hk
        · rw [List.mem_append, List.mem_singleton, hm a]
          refine ⟨fun z => ?_, fun z => ?_⟩
          · rcases z with z | z
            · exact ⟨z.1, by omega⟩
            · rw [z]; exact ⟨hgG, by omega⟩
          · by_cases q : a.1 / 2 < v
            · exact Or.inl ⟨z.1, q⟩
            · exact Or.inr (hdG a z.1 g hgG (by omega))
      · refine ⟨fun _ => ?_, fun z => absurd (by decide) z⟩
        rw [nI_1]
        refine ih (v + 1) W h0 _ (by omega) k0 h61 hw0 hp (fun a => ?_)
        rw [hm a]
        refine ⟨fun z => ⟨z.1, by omega⟩, fun z => ⟨z.1, ?_⟩⟩
        rcases Nat.lt_or_ge (a.1 / 2) v with q | q
        · exact q
        · have e : a.1 / 2 = v := by omega
          rcases hno with hno | hno
          · exact absurd (e ▸ hno) (hown a z.1).2.2
          · exact absurd e (hno a z.1)
  refine g_41_0 h 6 c ⟨⟨rfl, rfl⟩, ?_⟩
  refine key M 1 [] _ _ (by omega) (kp_hw (S := s67) (Or.inl rfl)) ?_ (fun j g hj => (by cases hj)) List.Pairwise.nil (fun g => ⟨fun z => (by cases z), fun z => (by have := hown g z.1; omega)⟩)
  show sx_u h.1 6 1 0 6 1 = _
  rw [sx_u_eq, va_up_self]
  rfl
