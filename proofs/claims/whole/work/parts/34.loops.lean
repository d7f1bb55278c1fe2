-- LOOPS: a gate that needs itself
def ed (G : List gt) (u v : Nat) : Prop := ∃ g ∈ G, g.1 / 2 = u ∧ (gM g / 2 = v ∨ gm g / 2 = v)
/-- v is reached from u by one step or more -/
def rp (G : List gt) (u v : Nat) : Prop := ∀ P : Nat → Prop, (∀ x, ed G u x → P x) → (∀ x y, P x → ed G x y → P y) → P v
theorem rp.one {G : List gt} {u v : Nat} (h : ed G u v) : rp G u v := fun _ a _ => a v h
theorem rp.step {G : List gt} {u x y : Nat} (h : rp G u x) (e : ed G x y) : rp G u y := fun P a b => b x y (h P a b) e
theorem rp.tr {G : List gt} {u x y : Nat} (h : rp G u x) (e : rp G x y) : rp G u y := e (rp G u) (fun _ z => h.step z) (fun _ _ p z => p.step z)
noncomputable def cnP {α : Type} (P : α → Prop) : List α → Nat
  | [] => 0
  | a :: l => @ite Nat (P a) (Classical.propDecidable _) 1 0 + cnP P l
theorem cnP_y {α : Type} {P : α → Prop} {a : α} {l : List α} (h : P a) : cnP P (a :: l) = 1 + cnP P l := by
  show @ite Nat (P a) (Classical.propDecidable _) 1 0 + _ = _
  rw [if_pos h]
theorem cnP_n {α : Type} {P : α → Prop} {a : α} {l : List α} (h : ¬ P a) : cnP P (a :: l) = cnP P l := by
  show @ite Nat (P a) (Classical.propDecidable _) 1 0 + _ = _
  rw [if_neg h, Nat.zero_add]
theorem cnP_le {α : Type} {P Q : α → Prop} : ∀ {l : List α}, (∀ a ∈ l, P a → Q a) → cnP P l ≤ cnP Q l
  | [], _ => Nat.le_refl _
  | a :: l, h => by
    have ih := cnP_le (l := l) (fun b hb => h b (List.mem_cons_of_mem _ hb))
    by_cases p : P a
    · rw [cnP_y p, cnP_y (h a List.mem_cons_self p)]; omega
    · rw [cnP_n p]
      by_cases q : Q a
      · rw [cnP_y q]; omega
      · rw [cnP_n q]; exact ih
theorem cnP_lt {α : Type} {P Q : α → Prop} : ∀ {l : List α}, (∀ a ∈ l, P a → Q a) → (∃ a ∈ l, Q a ∧ ¬ P a) → cnP P l < cnP Q l
  | [], _, h => by obtain ⟨a, ha, _⟩ := h; cases ha
  | a :: l, h, hx => by
    have hl := cnP_le (l := l) (fun b hb => h b (List.mem_cons_of_mem _ hb))
    obtain ⟨b, hb, hq, hp⟩ := hx
    rcases List.mem_cons.mp hb with e | hb
    · subst e
      rw [cnP_y hq, cnP_n hp]; omega
    · have ih := cnP_lt (l := l) (fun b hb => h b (List.mem_cons_of_mem _ hb)) ⟨b, hb, hq, hp⟩
      by_cases p : P a
      · rw [cnP_y p, cnP_y (h a List.mem_cons_self p)]; omega
      · rw [cnP_n p]
        by_cases q : Q a
        · rw [cnP_y q]; omega
        · rw [cnP_n q]; exact ih
theorem loop_ex {G W : List gt} (h0 : W ≠ []) (h : ∀ g ∈ W, ∃ g' ∈ W, ed G (g.1 / 2) (g'.1 / 2)) : ∃ g ∈ W, rp G (g.1 / 2) (g.1 / 2) := by
  refine Classical.byContradiction (fun hno => ?_)
  have no : ∀ g ∈ W, ¬ rp G (g.1 / 2) (g.1 / 2) := fun g hg q => hno ⟨g, hg, q⟩
  have key : ∀ (m : Nat) (g : gt), g ∈ W → cnP (fun a => rp G (g.1 / 2) (a.1 / 2)) W ≤ m → False := by
    intro m
    induction m with
    | zero =>
      intro g hg hm
      obtain ⟨g', hg', e⟩ := h g hg
      have := cnP_lt (l := W) (P := fun _ => False) (Q := fun a => rp G (g.1 / 2) (a.1 / 2)) (fun a _ z => z.elim) ⟨g', hg', rp.one e, fun z => z⟩
      omega
    | succ m ih =>
      intro g hg hm
      obtain ⟨g', hg', e⟩ := h g hg
      refine ih g' hg' ?_
      have := cnP_lt (l := W) (P := fun a => rp G (g'.1 / 2) (a.1 / 2)) (Q := fun a => rp G (g.1 / 2) (a.1 / 2)) (fun a _ z => (rp.one e).tr z) ⟨g', hg', rp.one e, no g' hg'⟩
      omega
  obtain ⟨g, hg⟩ := List.exists_mem_of_ne_nil W h0
  exact key _ g hg (Nat.le_refl _)
/-- what was settled doesn't need itself -/
theorem rp_no {L T : List Nat} {G : List gt} {dp : Nat → Nat} (hp : pI (sv L) G T dp) (hG : dG G) (hs : ∀ g ∈ G, g.1 / 2 ∉ sv L) {g : gt} (hg : g ∈ G) (hT : g.1 / 2 ∈ sv L ++ T) : ¬ rp G (g.1 / 2) (g.1 / 2) := by
  intro h
  have inT : ∀ g ∈ G, g.1 / 2 ∈ sv L ++ T → g.1 / 2 ∈ T := fun g hg z => (List.mem_append.mp z).resolve_left (hs g hg)
  have := h (fun x => x ∈ sv L ++ T ∧ (sv L ++ T).idxOf x < (sv L ++ T).idxOf (g.1 / 2)) (fun x e => by
    obtain ⟨g', hg', e1, e2⟩ := e
    have eg := hG g' hg' g hg e1
    subst eg
    obtain ⟨⟨⟨a1, a2⟩, a3, a4⟩, -⟩ := hp.2.1 g' hg' (inT g' hg' hT)
    rcases e2 with e2 | e2
    · rw [← e2]; exact ⟨a1, a3⟩
    · rw [← e2]; exact ⟨a2, a4⟩) (fun x y p e => by
    obtain ⟨g', hg', e1, e2⟩ := e
    obtain ⟨⟨⟨a1, a2⟩, a3, a4⟩, -⟩ := hp.2.1 g' hg' (inT g' hg' (by rw [e1]; exact p.1))
    rw [e1] at a3 a4
    rcases e2 with e2 | e2
    · rw [← e2]; exact ⟨a1, by omega⟩
    · rw [← e2]; exact ⟨a2, by omega⟩)
  omega
/-- the class's queue -/
def bq (h : sx_H) (Q : List Nat) : Prop := h.1 6 3 = nI Q.length ∧ (∀ j k, Q[j]? = some k → h.1 8 j = nI k) ∧ (∀ k, k < 300 → h.1 9 k = if k ∈ Q then 1 else 0) ∧ Q.Nodup ∧ ∀ k ∈ Q, k < 300
def s689 : Nat → Prop := fun b => b = 6 ∨ b = 8 ∨ b = 9
theorem lt300_len {Q : List Nat} (hn : Q.Nodup) (h : ∀ k ∈ Q, k < 300) : Q.length ≤ 300 := by
  have := hn.length_le_of_subset (fun a ha => List.mem_range.mpr (h a ha))
  rw [List.length_range] at this
  exact this
theorem e_reach {h : sx_H} {Q : List Nat} {k : Nat} {f : sx_H → Prop} (hb : bq h Q) (hk : k < 300) (H : ∀ h' E, kp s689 h h' → h'.1 6 1 = h.1 6 1 → bq h' (Q ++ E) → (∀ y, y ∈ Q ++ E ↔ y ∈ Q ∨ y = k) → f h') :
    sx_X sx_w 46 0 [some (.ref 6), some (.int (nI k))] [] h (sx_qv f) := by
  obtain ⟨b1, b2, b3, b4, b5⟩ := hb
  refine g_46_0 h 6 _ ⟨fun z => absurd z (nI_pos (by omega)), fun _ => ⟨rfl, e_pick (a := 6 + 3) (n := 300) rfl (by decide) ?_⟩⟩
  rw [pk_nI hk (by decide), show h.1 (6 + 3) k = _ from b3 k hk]
  by_cases q : k ∈ Q
  · rw [if_pos q]
    refine ⟨fun _ => ?_, fun z => absurd z (by decide)⟩
    refine H h [] kp.rf rfl (by rw [List.append_nil]; exact ⟨b1, b2, b3, b4, b5⟩) (fun y => ?_)
    rw [List.append_nil]
    exact ⟨fun z => Or.inl z, fun z => z.elim id (fun e => e ▸ q)⟩
  · rw [if_neg q]
    refine ⟨fun z => absurd rfl z, fun _ => ⟨rfl, ?_⟩⟩
    have hn' := nd_snoc b4 q
    have hl' : ∀ y ∈ Q ++ [k], y < 300 := fun y hy => by
      rcases List.mem_append.mp hy with z | z
      · exact b5 y z
      · rw [List.mem_singleton.mp z]; exact hk
    have hlen := lt300_len hn' hl'
    rw [len1] at hlen
    refine e_store (a := 6 + 3) (n := 300) rfl rfl (by decide) ⟨rfl, rfl, ?_⟩
    rw [st_nI hk (by decide)]
    refine e_store (a := 6 + 2) (n := 300) rfl rfl (by decide) ⟨rfl, ⟨rfl, rfl⟩, ?_⟩
    have x6 : (hw h (6 + 3) (va_up (h.1 (6 + 3)) k 1)).1 6 = h.1 6 := hw_ne _ _ (by decide)
    have x8 : (hw h (6 + 3) (va_up (h.1 (6 + 3)) k 1)).1 (6 + 2) = h.1 8 := hw_ne _ _ (by decide)
    rw [x6, x8, b1, st_nI (by omega) (by decide)]
    generalize e : hw (hw h (6 + 3) (va_up (h.1 (6 + 3)) k 1)) (6 + 2) (va_up (h.1 8) Q.length (nI k)) = h1
    have y6 : h1.1 6 = h.1 6 := by rw [← e, hw_ne _ _ (by decide), x6]
    have y8 : h1.1 8 = va_up (h.1 8) Q.length (nI k) := by rw [← e]; exact hw_self _ _ _
    have y9 : h1.1 9 = va_up (h.1 9) k 1 := by
      rw [← e, hw_ne _ _ (by decide)]
      exact hw_self _ _ _
    have k1 : kp s689 h h1 := by rw [← e]; exact (kp_hw (S := s689) (Or.inr (Or.inr rfl))).tr (kp_hw (S := s689) (Or.inr (Or.inl rfl)))
    refine H _ [k] (k1.tr (kp_hw (S := s689) (Or.inl rfl))) ?_ ⟨?_, fun j y hj => ?_, fun y hy => ?_, hn', hl'⟩ (fun y => ?_)
    · dsimp only
      rw [sx_u_eq, va_up_ne _ _ (by decide), y6]
    · dsimp only
      rw [sx_u_eq, va_up_self, y6, b1, nI_1, len1]
    · dsimp only
      rw [sx_u_ne (by decide), y8]
      rcases get_app hj with ⟨z1, z2⟩ | ⟨z1, z2⟩
      · rw [va_up_ne _ _ (by omega)]; exact b2 j y z2
      · rw [z1, z2, va_up_self]
    · dsimp only
      rw [sx_u_ne (by decide), y9]
      by_cases ey : y = k
      · rw [ey, va_up_self, if_pos (List.mem_append_right _ (List.mem_singleton.mpr rfl))]
      · rw [va_up_ne _ _ ey, b3 y hy]
        by_cases z : y ∈ Q
        · rw [if_pos z, if_pos (List.mem_append_left _ z)]
        · rw [if_neg z, if_neg (fun w => (List.mem_append.mp w).elim z (fun w => ey (List.mem_singleton.mp w)))]
    · rw [List.mem_append, List.mem_singleton]
theorem e_reachN {h : sx_H} {f : sx_H → Prop} (H : f h) : sx_X sx_w 46 0 [some (.ref 6), some (.int (-1))] [] h (sx_qv f) :=
  g_46_0 h 6 _ ⟨fun _ => H, fun z => absurd (by decide) z⟩
/-- the unsettled gates at a variable, by their numbers -/
def ug (G : List gt) (S : List Nat) (u y : Nat) : Prop := ∃ g', G[y]? = some g' ∧ g'.1 / 2 = u ∧ u ∉ S
theorem ug_un {G : List gt} {S : List Nat} {u y z : Nat} (hp : G.Pairwise (fun x y => x.1 / 2 ≠ y.1 / 2)) (h1 : ug G S u y) (h2 : ug G S u z) : y = z := by
  obtain ⟨a, a1, a2, -⟩ := h1
  obtain ⟨b, b1, b2, -⟩ := h2
  obtain ⟨ya, ea⟩ := List.getElem?_eq_some_iff.mp a1
  obtain ⟨yb, eb⟩ := List.getElem?_eq_some_iff.mp b1
  have hpw := List.pairwise_iff_getElem.mp hp
  rcases Nat.lt_trichotomy y z with q | q | q
  · exact absurd (by rw [ea, eb, a2, b2]) (hpw y z ya yb q)
  · exact q
  · exact absurd (by rw [ea, eb, a2, b2]) (hpw z y yb ya q)
theorem e_reachU {h : sx_H} {c u : Nat} {S Q : List Nat} {G : List gt} {f : sx_H → Prop} (hc : cc c) (hd : nd3 (h.1 (c + 7)) S G) (hl : S.length ≤ 315) (hG : G.length ≤ 300) (hp : G.Pairwise (fun x y => x.1 / 2 ≠ y.1 / 2)) (hu : u ≤ 1000) (hb : bq h Q) (H : ∀ h' E, kp s689 h h' → h'.1 6 1 = h.1 6 1 → bq h' (Q ++ E) → (∀ y, y ∈ Q ++ E ↔ y ∈ Q ∨ ug G S u y) → f h') :
    sx_X sx_w 15 0 [some (.ref c), some (.int (nI u))] [] h (sx_qi fun x4 h3 => ((sx_w.1 6).1 = 7 ∧ sx_X sx_w 46 0 [some (.ref 6), some (.int x4)] [] h3 (sx_qv f))) := by
  obtain ⟨q0, q1, q2, q3, q4, q5, q6, q7, q8, q9, q10⟩ := cc_sh hc
  refine e_unsettled (S := S) (G := G) q0 q7 hd hl hG hu (fun k g hk eg hn => ⟨rfl, ?_⟩) (fun hno => ⟨rfl, e_reachN ?_⟩)
  · have := (List.getElem?_eq_some_iff.mp hk).1
    have hug : ug G S u k := ⟨g, hk, eg, hn⟩
    refine e_reach hb (by omega) (fun h' E k' e1 b' hm => H h' E k' e1 b' (fun y => ?_))
    rw [hm y]
    exact ⟨fun z => z.elim Or.inl (fun e => Or.inr (by rw [e]; exact hug)), fun z => z.elim Or.inl (fun e => Or.inr (ug_un hp e hug))⟩
  · refine H h [] kp.rf rfl (by rw [List.append_nil]; exact hb) (fun y => ?_)
    rw [List.append_nil]
    refine ⟨fun z => Or.inl z, fun z => z.elim id (fun e => ?_)⟩
    obtain ⟨g', a1, a2, a3⟩ := e
    rcases hno with z | z
    · exact absurd z a3
    · exact absurd a2 (z g' (List.mem_of_getElem? a1))
theorem e_reachNeeds {h : sx_H} {c M I O A k : Nat} {L OU S Q : List Nat} {G : List gt} {dp : Nat → Nat} {g : gt} {f : sx_H → Prop} (hc : cc c) (m : mS h c M I O A L OU G S dp) (w : wf M I O A L OU G) (hl : S.length ≤ 315) (hk : G[k]? = some g) (hb : bq h Q)
    (H : ∀ h' E, kp s689 h h' → h'.1 6 1 = h.1 6 1 → bq h' (Q ++ E) → (∀ y, y ∈ Q ++ E ↔ y ∈ Q ∨ ug G S (gM g / 2) y ∨ ug G S (gm g / 2) y) → f h') :
    sx_X sx_w 45 0 [some (.ref 6), some (.ref c), some (.int (nI k))] [] h (sx_qv f) := by
  obtain ⟨q0, q1, q2, q3, q4, q5, q6, q7, q8, q9, q10⟩ := cc_sh hc
  have hc' := hc
  unfold cc at hc'
  obtain ⟨⟨wM, wI, wO, wA⟩, ⟨lL, lO, lG⟩, wL, wG, wO2⟩ := w
  have hk' := (List.getElem?_eq_some_iff.mp hk).1
  have hgok := wG.1 g (List.mem_of_getElem? hk)
  have hgM : gM g ≤ 2001 := by unfold gM; omega
  have hgm := gm_le g
  obtain ⟨-, r4, r5⟩ := m.1.2.2.2 k g hk
  refine g_45_0 h 6 c _ ⟨q0, e_pick q4 (by decide) ⟨q0, ?_⟩⟩
  rw [pk_nI (by omega) (by decide), r4, sh_half (by omega)]
  refine e_reachU hc m.2.1 hl (by omega) wG.2 (by omega) hb (fun h1 E1 k1 e1 b1 hm1 => ⟨q0, e_pick q5 (by decide) ⟨q0, ?_⟩⟩)
  have d : ∀ j, j ≤ 10 → h1.1 (c + j) = h.1 (c + j) := fun j hj => k1.i (by unfold s689; omega)
  rw [pk_nI (by omega) (by decide), d 5 (by omega), r5, sh_half (by omega)]
  refine e_reachU hc (S := S) (G := G) (by rw [d 7 (by omega)]; exact m.2.1) hl (by omega) wG.2 (by omega) b1 (fun h2 E2 k2 e2 b2 hm2 => ?_)
  refine H h2 (E1 ++ E2) (k1.tr k2) (e2.trans e1) (by rw [← List.append_assoc]; exact b2) (fun y => ?_)
  rw [← List.append_assoc, hm2 y, hm1 y]
  exact or_assoc
theorem e_needsItself {h : sx_H} {c M I O A k : Nat} {L OU T : List Nat} {G : List gt} {dp : Nat → Nat} {g : gt} {f : Int32 → sx_H → Prop} (hc : cc c) (m : mS h c M I O A L OU G (sv L ++ T) dp) (p : pI (sv L) G T dp) (w : wf M I O A L OU G) (hl : (sv L ++ T).length ≤ 315) (hst : ∀ g ∈ G, stn L G (gM g / 2) ∧ stn L G (gm g / 2)) (hk : G[k]? = some g) (hu : g.1 / 2 ∉ sv L ++ T)
    (H1 : rp G (g.1 / 2) (g.1 / 2) → ∀ h', kp s689 h h' → h'.1 6 1 = h.1 6 1 → f 1 h') (H0 : ¬ rp G (g.1 / 2) (g.1 / 2) → ∀ h', kp s689 h h' → h'.1 6 1 = h.1 6 1 → f 0 h') :
    sx_X sx_w 44 0 [some (.ref 6), some (.ref c), some (.int (nI k)), none] [] h (sx_qi f) := by
  have hc' := hc
  unfold cc at hc'
  have wG := w.2.2.2.1
  have lG := w.2.1.2.2
  have wA := w.1.2.2.2
  have hdG := pw_dG wG.2
  have hgG := List.mem_of_getElem? hk
  have hk' := (List.getElem?_eq_some_iff.mp hk).1
  have hsv : ∀ g ∈ G, g.1 / 2 ∉ sv L := fun g hg => (sv_gate w hg).1
  -- what each queued gate's needs give
  have edU : ∀ {x y : Nat} {a : gt}, G[x]? = some a → (ug G (sv L ++ T) (gM a / 2) y ∨ ug G (sv L ++ T) (gm a / 2) y) → ∃ b, G[y]? = some b ∧ ed G (a.1 / 2) (b.1 / 2) ∧ b.1 / 2 ∉ sv L ++ T := fun {x y a} ha z => by
    rcases z with ⟨b, b1, b2, b3⟩ | ⟨b, b1, b2, b3⟩
    · exact ⟨b, b1, ⟨a, List.mem_of_getElem? ha, rfl, Or.inl b2.symm⟩, by rw [b2]; exact b3⟩
    · exact ⟨b, b1, ⟨a, List.mem_of_getElem? ha, rfl, Or.inr b2.symm⟩, by rw [b2]; exact b3⟩
  have key : ∀ (e i : Nat) (Q : List Nat) (h0 : sx_H), i + e = 300 → i ≤ Q.length → kp s689 h h0 → h0.1 6 1 = h.1 6 1 → bq h0 Q →
      (∀ y ∈ Q, ∃ b, G[y]? = some b ∧ rp G (g.1 / 2) (b.1 / 2) ∧ b.1 / 2 ∉ sv L ++ T) →
      (∀ y, (ug G (sv L ++ T) (gM g / 2) y ∨ ug G (sv L ++ T) (gm g / 2) y) → y ∈ Q) →
      (∀ j x a, j < i → Q[j]? = some x → G[x]? = some a → ∀ y, (ug G (sv L ++ T) (gM a / 2) y ∨ ug G (sv L ++ T) (gm a / 2) y) → y ∈ Q) →
      sx_X sx_w 44 21 [some (.ref 6), some (.ref c), some (.int (nI k)), some (.int (nI i))] [] h0 (sx_qi f) := by
    have fin : ∀ (Q : List Nat) (h0 : sx_H), kp s689 h h0 → h0.1 6 1 = h.1 6 1 → bq h0 Q →
      (∀ y ∈ Q, ∃ b, G[y]? = some b ∧ rp G (g.1 / 2) (b.1 / 2) ∧ b.1 / 2 ∉ sv L ++ T) →
      (∀ y, (ug G (sv L ++ T) (gM g / 2) y ∨ ug G (sv L ++ T) (gm g / 2) y) → y ∈ Q) →
      (∀ x a, x ∈ Q → G[x]? = some a → ∀ y, (ug G (sv L ++ T) (gM a / 2) y ∨ ug G (sv L ++ T) (gm a / 2) y) → y ∈ Q) →
      sx_X sx_w 75 0 [some (.ref (6 + 3)), some (.int (nI k))] [] h0 (sx_qi fun x2 h1 => ((¬ (x2 : Int32) = (1 : Int32) → (((0 : Int32) = 0 ∨ (0 : Int32) = 1) ∧ sx_qi f (some (.int 0)) h1)) ∧ ((x2 : Int32) = (1 : Int32) → (((1 : Int32) = 0 ∨ (1 : Int32) = 1) ∧ sx_qi f (some (.int 1)) h1)))) := by
      intro Q h0 k0 e1 b0 hQ hg0 hcl
      refine e_pick (a := 6 + 3) (n := 300) rfl (by decide) ?_
      rw [pk_nI (by omega) (by decide), show h0.1 (6 + 3) k = _ from b0.2.2.1 k (by omega)]
      have iff : k ∈ Q ↔ rp G (g.1 / 2) (g.1 / 2) := by
        refine ⟨fun z => ?_, fun z => ?_⟩
        · obtain ⟨b, b1, b2, -⟩ := hQ k z
          rw [hk] at b1
          cases b1
          exact b2
        · have ned : ∀ (a : gt) (x : Nat), a ∈ G → ed G (a.1 / 2) x → (∀ y, (ug G (sv L ++ T) (gM a / 2) y ∨ ug G (sv L ++ T) (gm a / 2) y) → y ∈ Q) → x ∈ sv L ++ T ∨ ∃ y b, y ∈ Q ∧ G[y]? = some b ∧ b.1 / 2 = x := fun a x ha ex hq => by
            by_cases hx : x ∈ sv L ++ T
            · exact Or.inl hx
            · obtain ⟨a', ha', e1, e2⟩ := ex
              have ea := hdG a' ha' a ha e1
              subst ea
              have hs2 : stn L G x := by
                rcases e2 with e2 | e2
                · rw [← e2]; exact (hst a' ha').1
                · rw [← e2]; exact (hst a' ha').2
              rcases hs2 with z | ⟨b, hb, eb⟩
              · exact absurd (List.mem_append_left _ z) hx
              · obtain ⟨y, hy, rfl⟩ := List.mem_iff_getElem.mp hb
                have hgy : G[y]? = some G[y] := List.getElem?_eq_getElem hy
                refine Or.inr ⟨y, G[y], hq y ?_, hgy, eb⟩
                rcases e2 with e2 | e2
                · exact Or.inl ⟨G[y], hgy, by rw [e2]; exact eb, by rw [e2]; exact hx⟩
                · exact Or.inr ⟨G[y], hgy, by rw [e2]; exact eb, by rw [e2]; exact hx⟩
          have := z (fun x => x ∈ sv L ++ T ∨ ∃ y b, y ∈ Q ∧ G[y]? = some b ∧ b.1 / 2 = x) (fun x ex => ned g x hgG ex hg0) (fun x y px ex => by
            rcases px with px | ⟨j, b, b1, b2, b3⟩
            · obtain ⟨a, ha, e1, e2⟩ := ex
              have hT : a.1 / 2 ∈ T := (List.mem_append.mp (by rw [e1]; exact px)).resolve_left (hsv a ha)
              obtain ⟨⟨⟨a1, a2⟩, -, -⟩, -⟩ := p.2.1 a ha hT
              rcases e2 with e2 | e2
              · rw [← e2]; exact Or.inl a1
              · rw [← e2]; exact Or.inl a2
            · rw [← b3] at ex
              exact ned b y (List.mem_of_getElem? b2) ex (hcl j b b1 b2))
          rcases this with z2 | ⟨j, b, b1, b2, b3⟩
          · exact absurd z2 hu
          · have eb := hdG b (List.mem_of_getElem? b2) g hgG b3
            subst eb
            have : j = k := ug_un (S := []) (u := b.1 / 2) wG.2 ⟨b, b2, rfl, fun q => (by cases q)⟩ ⟨b, hk, rfl, fun q => (by cases q)⟩
            exact this ▸ b1
      by_cases z : k ∈ Q
      · rw [if_pos z]
        exact ⟨fun y => absurd rfl y, fun _ => ⟨Or.inr rfl, H1 (iff.mp z) h0 k0 e1⟩⟩
      · rw [if_neg z]
        exact ⟨fun _ => ⟨Or.inl rfl, H0 (fun y => z (iff.mpr y)) h0 k0 e1⟩, fun y => absurd y (by decide)⟩
    intro e
    induction e with
    | zero =>
      intro i Q h0 hi hiQ k0 e1 b0 hQ hg0 hcl
      refine g_44_21 h0 6 c _ _ (pk_le 300 i (fun _ => ⟨rfl, fin Q h0 k0 e1 b0 hQ hg0 (fun x a hx ha => ?_)⟩) (fun z => (by omega)))
      obtain ⟨j, hj, ej⟩ := List.mem_iff_getElem.mp hx
      have := lt300_len b0.2.2.2.1 b0.2.2.2.2
      exact hcl j x a (by omega) (by rw [List.getElem?_eq_getElem hj, ej]) ha
    | succ e ih =>
      intro i Q h0 hi hiQ k0 e1 b0 hQ hg0 hcl
      have hl3 := lt300_len b0.2.2.2.1 b0.2.2.2.2
      refine g_44_21 h0 6 c _ _ (pk_le 300 i (fun z => (by omega)) (fun _ => ⟨rfl, ?_⟩))
      rw [b0.1]
      refine pk_le Q.length i (fun z => ⟨rfl, fin Q h0 k0 e1 b0 hQ hg0 (fun x a hx ha => ?_)⟩) (fun z => ⟨rfl, ?_⟩)
      · obtain ⟨j, hj, ej⟩ := List.mem_iff_getElem.mp hx
        exact hcl j x a (by omega) (by rw [List.getElem?_eq_getElem hj, ej]) ha
      · refine e_pick (a := 6 + 2) (n := 300) rfl (by decide) ?_
        have hgi : Q[i]? = some Q[i] := List.getElem?_eq_getElem z
        rw [pk_nI (by omega) (by decide), show h0.1 (6 + 2) i = _ from b0.2.1 i Q[i] hgi]
        obtain ⟨a, ha, ra, ua⟩ := hQ Q[i] (List.getElem_mem z)
        have m0 : mS h0 c M I O A L OU G (sv L ++ T) dp := m.eq (fun j hj => k0.i (by unfold s689; omega))
        refine ⟨rfl, e_reachNeeds hc m0 w hl ha b0 (fun h1 E k1 e2 b1 hm => ?_)⟩
        rw [nI_1]
        have up : ∀ y, y ∈ Q → y ∈ Q ++ E := fun y hy => List.mem_append_left _ hy
        refine ih (i + 1) (Q ++ E) h1 (by omega) (by rw [List.length_append]; omega) (k0.tr k1) (e2.trans e1) b1 (fun y hy => ?_) (fun y hy => up y (hg0 y hy)) (fun j x b hj hx hb y hy => ?_)
        · rcases (hm y).mp hy with q | q
          · exact hQ y q
          · obtain ⟨b, b1, b2, b3⟩ := edU ha q
            exact ⟨b, b1, ra.step b2, b3⟩
        · by_cases q : j < i
          · rw [List.getElem?_append_left (by omega)] at hx
            exact up y (hcl j x b q hx hb y hy)
          · have ej : j = i := by omega
            rw [ej, List.getElem?_append_left z, hgi] at hx
            cases hx
            rw [ha] at hb
            cases hb
            exact (hm y).mpr (Or.inr hy)
  refine g_44_0 h 6 c _ ⟨rfl, e_fill (a := 6 + 3) (n := 300) rfl rfl (by decide) (fun row hrow => ⟨⟨rfl, rfl⟩, rfl, ?_⟩)⟩
  generalize e : ((sx_u (hw h (6 + 3) row).1 6 3 0, (hw h (6 + 3) row).2.1, (hw h (6 + 3) row).2.2) : sx_H) = h1
  have er : sx_u (hw h (6 + 3) row).1 6 3 0 = h1.1 := by rw [← e]
  have k1 : kp s689 h h1 := by
    rw [← e]
    exact (kp_hw (S := s689) (a := 6 + 3) (row := row) (Or.inr (Or.inr rfl))).tr (kp_hw (S := s689) (a := 6) (Or.inl rfl))
  have e61 : h1.1 6 1 = h.1 6 1 := by rw [← er, sx_u_eq, va_up_ne _ _ (by decide), hw_ne _ _ (by decide)]
  have b1 : bq h1 [] := by
    refine ⟨by rw [← er, sx_u_eq, va_up_self]; rfl, fun j k hj => (by cases hj), fun y hy => ?_, List.nodup_nil, fun y hy => (by cases hy)⟩
    rw [← er, sx_u_ne (by decide)]
    show (hw h 9 row).1 9 y = _
    rw [hw_self, hrow y hy]
    rfl
  have m1 : mS h1 c M I O A L OU G (sv L ++ T) dp := m.eq (fun j hj => k1.i (by unfold s689; omega))
  refine e_reachNeeds hc m1 w hl hk b1 (fun h2 E k2 e2 b2 hm => ?_)
  rw [List.nil_append] at b2 hm
  refine key 300 0 E h2 rfl (Nat.zero_le _) (k1.tr k2) (e2.trans e61) b2 (fun y hy => ?_) (fun y hy => (hm y).mpr (Or.inr hy)) (fun j x a hj => absurd hj (Nat.not_lt_zero _))
  rcases (hm y).mp hy with q | q
  · cases q
  · obtain ⟨b, b1, b2, b3⟩ := edU hk q
    exact ⟨b, b1, rp.one b2, b3⟩
