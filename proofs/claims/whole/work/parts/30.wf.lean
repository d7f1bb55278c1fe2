-- WHAT WAS READ IS WELL FORMED; the least variable that is used and stands for nothing
theorem bnd_inv {α β : Type} {x : rE ⊕ α} {f : α → rE ⊕ β} {b : β} (h : bnd x f = .inr b) : ∃ a, x = .inr a ∧ f a = .inr b := by
  cases x with
  | inl e => cases h
  | inr a => exact ⟨a, rfl, h⟩
theorem if_inv {α : Type} {P : Prop} [Decidable P] {x : α} {e : rE} {b : α} {y : rE ⊕ α} (h : (if P then y else .inl e) = .inr b) : P ∧ y = .inr b := by
  by_cases hP : P
  · rw [if_pos hP] at h; exact ⟨hP, h⟩
  · rw [if_neg hP] at h; cases h
theorem if_inv' {α : Type} {P : Prop} [Decidable P] {e : rE} {b : α} {y : rE ⊕ α} (h : (if P then .inl e else y) = .inr b) : ¬ P ∧ y = .inr b := by
  by_cases hP : P
  · rw [if_pos hP] at h; cases h
  · rw [if_neg hP] at h; exact ⟨hP, h⟩
theorem ri_ok {t : Nat → Nat} {n M : Nat} : ∀ {c p : Nat} {L : List Nat} {r : List Nat × Nat}, okL M L → ri t n M c p L = .inr r → okL M r.1 ∧ r.1.length = L.length + c
  | 0, p, L, r, hL, h => by cases h; exact ⟨hL, rfl⟩
  | c + 1, p, L, r, hL, h => by
    obtain ⟨a, -, ha⟩ := bnd_inv h
    obtain ⟨hp, hy⟩ := if_inv (x := r) ha
    obtain ⟨h1, h2⟩ := ri_ok (hL.add hp) hy
    refine ⟨h1, ?_⟩
    rw [h2, List.length_append, List.length_singleton]
    omega
theorem ro_ok {t : Nat → Nat} {n M : Nat} : ∀ {c p : Nat} {L : List Nat} {r : List Nat × Nat}, (∀ x ∈ L, x ≤ 2 * M + 1) → ro t n M c p L = .inr r → (∀ x ∈ r.1, x ≤ 2 * M + 1) ∧ r.1.length = L.length + c
  | 0, p, L, r, hL, h => by cases h; exact ⟨hL, rfl⟩
  | c + 1, p, L, r, hL, h => by
    obtain ⟨a, -, ha⟩ := bnd_inv h
    obtain ⟨hp, hy⟩ := if_inv (x := r) ha
    obtain ⟨h1, h2⟩ := ro_ok (fun x hx => by
      rcases List.mem_append.mp hx with hx | hx
      · exact hL x hx
      · rw [List.mem_singleton.mp hx]; exact hp) hy
    refine ⟨h1, ?_⟩
    rw [h2, List.length_append, List.length_singleton]
    omega
theorem rg_ok {t : Nat → Nat} {n M : Nat} {L : List Nat} : ∀ {c p : Nat} {G : List gt} {r : List gt × Nat}, okG M L G → rg t n M L c p G = .inr r → okG M L r.1 ∧ r.1.length = G.length + c
  | 0, p, G, r, hG, h => by cases h; exact ⟨hG, rfl⟩
  | c + 1, p, G, r, hG, h => by
    obtain ⟨a, -, ha⟩ := bnd_inv h
    obtain ⟨hp, hy⟩ := if_inv (x := r) ha
    obtain ⟨hp1, hy⟩ := if_inv (x := r) hy
    obtain ⟨hp2, hy⟩ := if_inv (x := r) hy
    obtain ⟨h1, h2⟩ := rg_ok (hG.add (g := (gv a.1 0, gv a.1 1, gv a.1 2)) hp hp1 hp2) hy
    refine ⟨h1, ?_⟩
    rw [h2, List.length_append, List.length_singleton]
    omega
theorem bI_mem : ∀ {k x : Nat}, x ∈ bI k → ∃ j, j < k ∧ x = 2 * (j + 1)
  | 0, x, h => by cases h
  | k + 1, x, h => by
    rcases List.mem_append.mp h with h | h
    · obtain ⟨j, h1, h2⟩ := bI_mem h; exact ⟨j, by omega, h2⟩
    · exact ⟨k, by omega, List.mem_singleton.mp h⟩
theorem bI_ok {M : Nat} : ∀ {k : Nat}, k ≤ M → okL M (bI k)
  | 0, _ => ⟨fun x hx => (by cases hx), List.Pairwise.nil⟩
  | k + 1, h => (bI_ok (k := k) (by omega)).add ⟨by omega, by omega, by omega, fun x hx => (by obtain ⟨j, h1, h2⟩ := bI_mem hx; omega), fun x hx => (by cases hx)⟩
theorem rb1_ok {t : Nat → Nat} {n own p : Nat} {r : gt × Nat} (h : rb1 t n own p = .inr r) : r.1.1 = own ∧ r.1.2.1 ≤ own ∧ r.1.2.2 ≤ own := by
  obtain ⟨a, -, ha⟩ := bnd_inv h
  obtain ⟨-, hy⟩ := if_inv' ha
  obtain ⟨b, -, hb⟩ := bnd_inv hy
  obtain ⟨-, hy⟩ := if_inv' hb
  cases hy
  exact ⟨rfl, by show own - a.1 ≤ own; omega, by show own - a.1 - b.1 ≤ own; omega⟩
theorem rb_ok {t : Nat → Nat} {n I M : Nat} : ∀ {c p : Nat} {G : List gt} {r : List gt × Nat}, I + G.length + c ≤ M → okG M (bI I) G → (∀ g ∈ G, ∃ j, j < G.length ∧ g.1 = 2 * (I + 1 + j)) → rb t n I c p G = .inr r → okG M (bI I) r.1 ∧ r.1.length = G.length + c
  | 0, p, G, r, hc, hG, hj, h => by cases h; exact ⟨hG, rfl⟩
  | c + 1, p, G, r, hc, hG, hj, h => by
    obtain ⟨a, ha, hy⟩ := bnd_inv h
    obtain ⟨e1, e2, e3⟩ := rb1_ok ha
    obtain ⟨h1, h2⟩ := rb_ok (c := c) (G := G ++ [a.1]) (by rw [List.length_append, List.length_singleton]; omega) (hG.add (g := a.1) ⟨by omega, by omega, by omega, fun x hx => (by obtain ⟨j, q1, q2⟩ := bI_mem hx; omega), fun g hg => (by obtain ⟨j, q1, q2⟩ := hj g hg; omega)⟩ (by omega) (by omega)) (fun g hg => by
      rw [List.length_append, List.length_singleton]
      rcases List.mem_append.mp hg with hg | hg
      · obtain ⟨j, q1, q2⟩ := hj g hg; exact ⟨j, by omega, q2⟩
      · rw [List.mem_singleton.mp hg]; exact ⟨G.length, by omega, e1⟩) hy
    refine ⟨h1, ?_⟩
    rw [h2, List.length_append, List.length_singleton]
    omega
def wf (M I O A : Nat) (L OU : List Nat) (G : List gt) : Prop := (M ≤ 1000 ∧ I ≤ 14 ∧ O ≤ 16 ∧ A ≤ 300) ∧ (L.length = I ∧ OU.length = O ∧ G.length = A) ∧ okL M L ∧ okG M L G ∧ ∀ x ∈ OU, x ≤ 2 * M + 1
abbrev wfr (r : rC) : Prop := wf r.1.1 r.1.2.1 r.1.2.2.1 r.1.2.2.2 r.2.1 r.2.2.1 r.2.2.2
theorem okG_nil {M : Nat} {L : List Nat} : okG M L [] := ⟨fun g hg => (by cases hg), List.Pairwise.nil⟩
theorem rd_wf {t : Nat → Nat} {n : Nat} {r : rC} (h : rd t n = .inr r) : wfr r := by
  unfold rd at h
  obtain ⟨-, h⟩ := if_inv (x := r) h
  generalize (decide (t 1 = 105)) = bin at h
  obtain ⟨s, hs, h⟩ := bnd_inv h
  obtain ⟨a, -, hs⟩ := bnd_inv hs
  obtain ⟨-, hs⟩ := if_inv (x := s) hs
  obtain ⟨hsz, hs⟩ := if_inv (x := s) hs
  cases hs
  revert hsz h
  dsimp only
  generalize gv a.1 0 = M
  generalize gv a.1 1 = I
  generalize gv a.1 3 = O
  generalize gv a.1 4 = A
  intro hsz h
  obtain ⟨b, hb, h⟩ := bnd_inv h
  obtain ⟨o, ho, h⟩ := bnd_inv h
  obtain ⟨g, hg, h⟩ := bnd_inv h
  obtain ⟨e, -, h⟩ := bnd_inv h
  cases h
  obtain ⟨o1, o2⟩ := ro_ok (fun x hx => (by cases hx)) ho
  have o2' : o.1.length = O := by rw [o2]; simp
  cases bin with
  | false =>
    obtain ⟨b1, b2⟩ := ri_ok (M := M) (L := []) ⟨fun x hx => (by cases hx), List.Pairwise.nil⟩ hb
    obtain ⟨g1, g2⟩ := rg_ok okG_nil hg
    exact ⟨⟨hsz.1, hsz.2.1, hsz.2.2.1, hsz.2.2.2.1⟩, ⟨by show b.1.length = I; rw [b2]; simp, o2', by show g.1.length = A; rw [g2]; simp⟩, b1, g1, o1⟩
  | true =>
    cases hb
    obtain ⟨g1, g2⟩ := rb_ok (M := M) (G := []) (by have := hsz.2.2.2.2.1; simp; omega) okG_nil (fun g hg => (by cases hg)) hg
    exact ⟨⟨hsz.1, hsz.2.1, hsz.2.2.1, hsz.2.2.2.1⟩, ⟨bI_len I, o2', by show g.1.length = A; rw [g2]; simp⟩, bI_ok (show I ≤ M by have := hsz.2.2.2.2.1; omega), g1, o1⟩
-- the least that is missing; 2000 where none is
abbrev ls (L : List Nat) (G : List gt) (m x : Nat) : Nat := if (x / 2 ≠ 0 ∧ fr L G (x / 2)) ∧ x / 2 < m then x / 2 else m
def mis (L OU : List Nat) (G : List gt) : Nat := G.foldl (fun m g => ls L G (ls L G m (max g.2.1 g.2.2)) (min g.2.1 g.2.2)) (OU.foldl (ls L G) 2000)
theorem ls_le (L : List Nat) (G : List gt) (m x : Nat) : ls L G m x ≤ m := by
  unfold ls; split <;> omega
theorem foldl_le {α : Type} {f : Nat → α → Nat} (hf : ∀ m a, f m a ≤ m) : ∀ (l : List α) (m : Nat), l.foldl f m ≤ m
  | [], m => Nat.le_refl _
  | a :: l, m => Nat.le_trans (foldl_le hf l (f m a)) (hf m a)
theorem foldl_2000 {α : Type} {f : Nat → α → Nat} {P : α → Prop} (hf : ∀ m a, f m a ≤ m) (hp : ∀ a, f 2000 a = 2000 → P a) : ∀ (l : List α), l.foldl f 2000 = 2000 → ∀ a ∈ l, P a
  | [], _, a, ha => by cases ha
  | b :: l, h, a, ha => by
    have h1 : f 2000 b = 2000 := by
      have := foldl_le hf l (f 2000 b)
      have h2 : l.foldl f (f 2000 b) = 2000 := h
      have := hf 2000 b
      omega
    rcases List.mem_cons.mp ha with ha | ha
    · rw [ha]; exact hp b h1
    · exact foldl_2000 hf hp l (by have h2 : l.foldl f (f 2000 b) = 2000 := h; rw [h1] at h2; exact h2) a ha
theorem ls_2000 {L : List Nat} {G : List gt} {x : Nat} (hx : x ≤ 2001) (h : ls L G 2000 x = 2000) : ¬ (x / 2 ≠ 0 ∧ fr L G (x / 2)) := by
  intro z
  unfold ls at h
  rw [if_pos ⟨z, by omega⟩] at h
  omega
theorem mis_2000 {M I O A : Nat} {L OU : List Nat} {G : List gt} (w : wf M I O A L OU G) (h : mis L OU G = 2000) :
    (∀ x ∈ OU, ¬ (x / 2 ≠ 0 ∧ fr L G (x / 2))) ∧ ∀ g ∈ G, ¬ (max g.2.1 g.2.2 / 2 ≠ 0 ∧ fr L G (max g.2.1 g.2.2 / 2)) ∧ ¬ (min g.2.1 g.2.2 / 2 ≠ 0 ∧ fr L G (min g.2.1 g.2.2 / 2)) := by
  have hf : ∀ (m : Nat) (g : gt), ls L G (ls L G m (max g.2.1 g.2.2)) (min g.2.1 g.2.2) ≤ m := fun m g => Nat.le_trans (ls_le L G _ _) (ls_le L G _ _)
  have h0 : OU.foldl (ls L G) 2000 = 2000 := by
    have h1 := foldl_le hf G (OU.foldl (ls L G) 2000)
    have h2 := foldl_le (ls_le L G) OU 2000
    unfold mis at h
    omega
  have hM := w.1.1
  refine ⟨fun x hx => ?_, fun g hg => ?_⟩
  · exact ls_2000 (by have := w.2.2.2.2 x hx; omega) (foldl_2000 (P := fun x => ls L G 2000 x = 2000) (ls_le L G) (fun a q => q) OU h0 x hx)
  · unfold mis at h
    rw [h0] at h
    have q := foldl_2000 (P := fun g => ls L G 2000 (max g.2.1 g.2.2) = 2000 ∧ ls L G 2000 (min g.2.1 g.2.2) = 2000) hf (fun a q => by
      have h1 := ls_le L G 2000 (max a.2.1 a.2.2)
      have h2 := ls_le L G (ls L G 2000 (max a.2.1 a.2.2)) (min a.2.1 a.2.2)
      have h3 : ls L G 2000 (max a.2.1 a.2.2) = 2000 := by omega
      rw [h3] at q
      exact ⟨h3, q⟩) G h g hg
    have hg' := w.2.2.2.1.1 g hg
    exact ⟨ls_2000 (by omega) q.1, ls_2000 (by omega) q.2⟩
theorem dropc {α : Type} {l r : List α} {i : Nat} {x : α} (h : l.drop i = x :: r) : i < l.length ∧ l[i]? = some x ∧ l.drop (i + 1) = r := by
  have hi : i < l.length := by
    rcases Nat.lt_or_ge i l.length with q | q
    · exact q
    · rw [List.drop_eq_nil_of_le q] at h; cases h
  rw [List.drop_eq_getElem_cons hi] at h
  cases h
  exact ⟨hi, List.getElem?_eq_getElem hi, rfl⟩
theorem dropn {α : Type} {l : List α} {i : Nat} (h : l.drop i = []) : l.length ≤ i := List.drop_eq_nil_iff.mp h
def cv (m : Nat) : Nat := if m = 2000 then 0 else m
def mOK (m : Nat) : Prop := m = 2000 ∨ (1 ≤ m ∧ m ≤ 1000)
theorem ls_mOK {L : List Nat} {G : List gt} {m x : Nat} (h : mOK m) (hx : x ≤ 2001) : mOK (ls L G m x) := by
  unfold ls
  split
  · exact Or.inr (by omega)
  · exact h
theorem e_lesserMissing {sh : sx_S} {h : sx_H} {c M I O A m x : Nat} {L OU : List Nat} {G : List gt} {f : Int32 → sx_H → Prop} (hk : (sh.1 c).1 = 5) (hs : sh.1 (c + 7) = (1, 1001)) (hr : rI h c M I O A L OU G) (hL : L.length ≤ 14) (hG : G.length ≤ 300) (hm : mOK m) (hx : x ≤ 2001) (H : f (nI (cv (ls L G m x))) h) :
    sx_X sh 14 0 [some (.ref c), some (.int (nI (cv m))), some (.int (nI x)), none] [] h (sx_qi f) := by
  have hfr := hr.2.2.2.2.2.fr hL hG (v := x / 2) (by omega)
  have hcv : cv m ≤ 1000 := by unfold cv; unfold mOK at hm; split <;> omega
  have h0 : cv m = 0 ↔ m = 2000 := by unfold cv; unfold mOK at hm; split <;> omega
  refine g_14_0 h c _ _ ⟨hk, g_12_0 h c _ ?_⟩
  rw [sh_half (by omega)]
  have no : ¬ (x / 2 ≠ 0 ∧ fr L G (x / 2)) → f (nI (cv m)) h := fun z => by
    unfold ls at H
    rw [if_neg (fun q => z q.1)] at H
    exact H
  refine pk_eq (y := 0) (x / 2) 0 (fun z => ⟨Or.inl rfl, ⟨fun _ => no (fun q => q.1 z), fun y => absurd rfl y⟩⟩) (fun z => ⟨hk, e_pick hs (by decide) ?_⟩)
  rw [pk_nI (by omega) (by decide)]
  refine ⟨fun y => ⟨Or.inl rfl, ⟨fun _ => no (fun q => y (hfr.mpr q.2)), fun y => absurd rfl y⟩⟩, fun y => ⟨Or.inr rfl, fun y => absurd y (by decide), fun _ => ?_⟩⟩
  have hP : x / 2 ≠ 0 ∧ fr L G (x / 2) := ⟨z, hfr.mp y⟩
  have yes : x / 2 < m → f (nI (x / 2)) h := fun q => by
    unfold ls at H
    rw [if_pos ⟨hP, q⟩] at H
    unfold cv at H
    rw [if_neg (by omega)] at H
    exact H
  refine pk_eq (y := 0) (cv m) 0 (fun z1 => yes (by have := h0.mp z1; omega)) (fun z1 => ?_)
  have hc2 : cv m = m := by unfold cv; rw [if_neg (fun q => z1 (h0.mpr q))]
  refine pk_le (cv m) (x / 2) (fun z2 => ?_) (fun z2 => yes (by omega))
  unfold ls at H
  rw [if_neg (by omega)] at H
  exact H
theorem e_leastMissing {sh : sx_S} {h : sx_H} {c M I O A : Nat} {L OU : List Nat} {G : List gt} {f : Int32 → sx_H → Prop} (hs : sh.1 = sx_shp) (hc : cc c) (hr : rI h c M I O A L OU G) (w : wf M I O A L OU G) (H : f (nI (cv (mis L OU G))) h) :
    sx_X sh 13 0 [some (.ref c), none, none] [] h (sx_qi f) := by
  obtain ⟨q0, q1, q2, q3, q4, q5, q6, q7, -⟩ := cc_sh hc
  rw [← hs] at q0 q2 q4 q5 q7
  obtain ⟨⟨wM, wI, wO, wA⟩, ⟨lL, lO, lG⟩, -, wG, wO2⟩ := w
  have key2 : ∀ (rest : List gt) (k m : Nat), G.drop k = rest → mOK m → rest.foldl (fun m g => ls L G (ls L G m (max g.2.1 g.2.2)) (min g.2.1 g.2.2)) m = mis L OU G → sx_X sh 13 34 [some (.ref c), some (.int (nI (cv m))), some (.int (nI k))] [] h (sx_qi f) ∨ G.length < k := by
    intro rest
    induction rest with
    | nil =>
      intro k m hd hm E
      rcases Nat.lt_or_ge G.length k with hk | hk
      · exact Or.inr hk
      refine Or.inl (g_13_34 h c _ _ ⟨q0, ?_⟩)
      have := dropn hd
      rw [hr.1.2.1]
      refine ⟨fun _ => ?_, fun z => absurd (nI_le (by omega) (by omega)) z⟩
      rw [← E] at H
      exact H
    | cons g rest ih =>
      intro k m hd hm E
      obtain ⟨hk, hg, hd'⟩ := dropc hd
      have hgG := wG.1 g (List.mem_of_getElem? hg)
      obtain ⟨-, r4, r5⟩ := hr.2.2.2.1 k g hg
      refine Or.inl (g_13_34 h c _ _ ⟨q0, ?_⟩)
      rw [hr.1.2.1]
      refine ⟨fun z => absurd z (nI_ge (by omega) (by omega)), fun _ => ⟨q0, e_pick q4 (by decide) ⟨q0, ?_⟩⟩⟩
      rw [pk_nI (by omega) (by decide), r4]
      refine e_lesserMissing q0 q7 hr (by omega) (by omega) hm (by omega) ⟨q0, e_pick q5 (by decide) ⟨q0, ?_⟩⟩
      rw [pk_nI (by omega) (by decide), r5]
      refine e_lesserMissing q0 q7 hr (by omega) (by omega) (ls_mOK hm (by omega)) (by omega) ?_
      rw [nI_1]
      rcases ih (k + 1) _ hd' (ls_mOK (ls_mOK hm (by omega)) (by omega)) E with q | q
      · exact q
      · omega
  have key1 : ∀ (rest : List Nat) (k m : Nat), OU.drop k = rest → k ≤ OU.length → mOK m → rest.foldl (ls L G) m = OU.foldl (ls L G) 2000 → sx_X sh 13 4 [some (.ref c), some (.int (nI (cv m))), some (.int (nI k))] [] h (sx_qi f) := by
    intro rest
    induction rest with
    | nil =>
      intro k m hd hk hm E
      refine g_13_4 h c _ _ ⟨q0, ?_⟩
      have := dropn hd
      rw [hr.1.2.2.1]
      refine ⟨fun _ => ?_, fun z => absurd (nI_le (by omega) (by omega)) z⟩
      rcases key2 G 0 m rfl hm (by unfold mis; rw [← E]; rfl) with q | q
      · exact q
      · omega
    | cons x rest ih =>
      intro k m hd _ hm E
      obtain ⟨hk, hx, hd'⟩ := dropc hd
      have hx2 := wO2 x (List.mem_of_getElem? hx)
      refine g_13_4 h c _ _ ⟨q0, ?_⟩
      rw [hr.1.2.2.1]
      refine ⟨fun z => absurd z (nI_ge (by omega) (by omega)), fun _ => ⟨q0, e_pick q2 (by decide) ⟨q0, ?_⟩⟩⟩
      rw [pk_nI (by omega) (by decide), hr.2.2.1 k x hx]
      refine e_lesserMissing q0 q7 hr (by omega) (by omega) hm (by omega) ?_
      rw [nI_1]
      exact ih (k + 1) _ hd' (by omega) (ls_mOK hm (by omega)) E
  exact g_13_0 h c (key1 OU 0 2000 rfl (by omega) (Or.inl rfl) rfl)
theorem e_usesStand {h : sx_H} {c M I O A : Nat} {L OU : List Nat} {G : List gt} {f : Int32 → sx_H → Prop} (hc : cc c) (hr : rI h c M I O A L OU G) (w : wf M I O A L OU G) (hm : mOK (mis L OU G)) (H1 : mis L OU G = 2000 → f 1 h) (H0 : mis L OU G ≠ 2000 → ∀ h', bad s1 h h' (7, mis L OU G) → f 0 h') :
    sx_X sx_w 73 0 [some (.ref 0), some (.ref c), none] [] h (sx_qi f) := by
  obtain ⟨q0, -⟩ := cc_sh hc
  refine g_73_0 h 0 c ⟨q0, e_leastMissing rfl hc hr w ?_⟩
  have hcv : cv (mis L OU G) ≤ 1000 := by unfold cv; unfold mOK at hm; split <;> omega
  have h0 : cv (mis L OU G) = 0 ↔ mis L OU G = 2000 := by unfold cv; unfold mOK at hm; split <;> omega
  refine pk_eq (y := 0) (cv (mis L OU G)) 0 (fun z => ⟨Or.inr rfl, H1 (h0.mp z)⟩) (fun z => ⟨rfl, rfl, ?_⟩)
  have hne : mis L OU G ≠ 2000 := fun q => z (h0.mpr q)
  have e : cv (mis L OU G) = mis L OU G := by unfold cv; rw [if_neg hne]
  rw [e]
  exact e_fail (fun h' k e1 e2 => ⟨fun _ => ⟨Or.inl rfl, H0 hne h' ⟨k, e1, e2⟩⟩, fun y => absurd rfl y⟩)
