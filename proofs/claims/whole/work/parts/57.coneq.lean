-- NODES AND VARIABLES: depths, values, cones
variable {M I O A : Nat} {L OU : List Nat} {G : List gt} {T : List Nat} {dp hi lo fo : Nat → Nat}
theorem NP.dq (np : NP M I O A L OU G T dp hi lo) : ∀ g ∈ G, dp (g.1 / 2) = 1 + max (dp (gM g / 2)) (dp (gm g / 2)) := fun g hg => (np.2.2.2.1.2.1 g hg (np.2.2.2.2.1 g hg)).2
theorem NP.dp0 (np : NP M I O A L OU G T dp hi lo) : ∀ v, (∀ g ∈ G, g.1 / 2 ≠ v) → dp v = 0 := fun v h => np.2.2.2.1.2.2.1 v (fun hT => by
  obtain ⟨g, hg, e⟩ := np.2.2.2.1.2.2.2.2 v hT
  exact h g hg e)
theorem NP.nds (np : NP M I O A L OU G T dp hi lo) {g : gt} (hg : g ∈ G) : g.1 / 2 ∈ T ∧ gM g / 2 ∈ sv L ++ T ∧ gm g / 2 ∈ sv L ++ T ∧ (sv L ++ T).idxOf (gM g / 2) < (sv L ++ T).idxOf (g.1 / 2) ∧ (sv L ++ T).idxOf (gm g / 2) < (sv L ++ T).idxOf (g.1 / 2) := by
  obtain ⟨⟨⟨a1, a2⟩, a3, a4⟩, -⟩ := np.2.2.2.1.2.1 g hg (np.2.2.2.2.1 g hg)
  exact ⟨np.2.2.2.2.1 g hg, a1, a2, a3, a4⟩
theorem NP.dpB (np : NP M I O A L OU G T dp hi lo) (v : Nat) : dp v ≤ 315 := by
  have key : ∀ (N v : Nat), (sv L ++ T).idxOf v < N → dp v ≤ (sv L ++ T).idxOf v := by
    intro N
    induction N with
    | zero => exact fun v h => absurd h (Nat.not_lt_zero _)
    | succ N ih =>
      intro v hv
      by_cases q : ∃ g ∈ G, g.1 / 2 = v
      · obtain ⟨g, hg, e⟩ := q
        obtain ⟨-, -, -, a3, a4⟩ := np.nds hg
        have d := np.dq g hg
        rw [e] at d a3 a4
        have b1 := ih (gM g / 2) (by omega)
        have b2 := ih (gm g / 2) (by omega)
        omega
      · rw [np.dp0 v (fun g hg e => q ⟨g, hg, e⟩)]
        exact Nat.zero_le _
  have h1 := key _ v (Nat.lt_succ_self _)
  have h2 : (sv L ++ T).idxOf v ≤ (sv L ++ T).length := List.idxOf_le_length
  have h3 := np.len
  omega
theorem NP.own (np : NP M I O A L OU G T dp hi lo) {g : gt} (hg : g ∈ G) : I < (sv L ++ T).idxOf (g.1 / 2) ∧ (sv L ++ T).idxOf (g.1 / 2) < I + 1 + A ∧ (sv L ++ T)[(sv L ++ T).idxOf (g.1 / 2)]? = some (g.1 / 2) := by
  have hT := np.2.2.2.2.1 g hg
  have hS : g.1 / 2 ∈ sv L ++ T := List.mem_append_right _ hT
  have hn := (sv_gate np.1 hg).1
  refine ⟨?_, ?_, ix_get hS⟩
  · rw [List.idxOf_append, if_neg hn, sv_len, np.1.2.1.1]
    omega
  · have := List.idxOf_lt_length_of_mem hS
    rw [np.len.1] at this
    exact this
theorem NP.ixl (np : NP M I O A L OU G T dp hi lo) {v : Nat} (hv : v ∈ sv L ++ T) : (sv L ++ T).idxOf v < I + 1 + A := by
  have := List.idxOf_lt_length_of_mem hv
  rw [np.len.1] at this
  exact this
theorem nl_half (S : List Nat) (x : Nat) : nl S x / 2 = S.idxOf (x / 2) ∧ nl S x % 2 = x % 2 := by unfold nl; omega
/-- the two literals of a node, in one order or the other -/
theorem NP.two (np : NP M I O A L OU G T dp hi lo) {g : gt} (hg : g ∈ G) : pr2 (hi ((sv L ++ T).idxOf (g.1 / 2))) (lo ((sv L ++ T).idxOf (g.1 / 2))) (nl (sv L ++ T) (gM g)) (nl (sv L ++ T) (gm g)) := by
  obtain ⟨e1, e2⟩ := np.2.2.2.2.2.2 g hg
  unfold pr2
  omega
noncomputable def tvl (S : List Nat) (vl : Nat → Nat) (v : Nat) : Nat := @ite _ (v ∈ S) (Classical.propDecidable _) (vl (S.idxOf v)) 0
theorem tvl_y {S : List Nat} {vl : Nat → Nat} {v : Nat} (h : v ∈ S) : tvl S vl v = vl (S.idxOf v) := by unfold tvl; rw [if_pos h]
theorem tvl_n {S : List Nat} {vl : Nat → Nat} {v : Nat} (h : v ∉ S) : tvl S vl v = 0 := by unfold tvl; rw [if_neg h]
theorem lv_nl {S : List Nat} {vl : Nat → Nat} {x : Nat} (h : x / 2 ∈ S) : lv (tvl S vl) x = lv vl (nl S x) := by
  unfold lv
  rw [tvl_y h, (nl_half S x).1, (nl_half S x).2]
theorem NP.tv (np : NP M I O A L OU G T dp hi lo) {vl : Nat → Nat} {m : Nat} (hE : vE I (I + 1 + A) m hi lo vl) (h2 : ∀ n, n < I + 1 + A → vl n < 2) :
    (∀ v, tvl (sv L ++ T) vl v < 2) ∧ (∀ i x, L[i]? = some x → tvl (sv L ++ T) vl (x / 2) = m / 2 ^ i % 2) ∧ (∀ v, (∀ x ∈ L, x / 2 ≠ v) → (∀ g ∈ G, g.1 / 2 ≠ v) → tvl (sv L ++ T) vl v = 0) ∧ ∀ g ∈ G, tvl (sv L ++ T) vl (g.1 / 2) = lv (tvl (sv L ++ T) vl) (gM g) * lv (tvl (sv L ++ T) vl) (gm g) := by
  refine ⟨fun v => ?_, fun i x hx => ?_, fun v h3 h4 => ?_, fun g hg => ?_⟩
  · by_cases q : v ∈ sv L ++ T
    · rw [tvl_y q]; exact h2 _ (np.ixl q)
    · rw [tvl_n q]; decide
  · have hi' : i < L.length := (List.getElem?_eq_some_iff.mp hx).1
    have e : (sv L ++ T)[i + 1]? = some (x / 2) := by
      rw [List.getElem?_append_left (by rw [sv_len]; omega)]
      unfold sv
      rw [List.getElem?_cons_succ, List.getElem?_map, hx]
      rfl
    rw [tvl_y (List.mem_of_getElem? e), ix_of np.2.2.2.1.1 e]
    exact hE.2.1 i (by rw [← np.1.2.1.1]; exact hi')
  · by_cases q : v ∈ sv L ++ T
    · have v0 : v = 0 := by
        rcases List.mem_append.mp q with q | q
        · rcases List.mem_cons.mp q with q | q
          · exact q
          · obtain ⟨x, hx, e⟩ := List.mem_map.mp q
            exact absurd e (h3 x hx)
        · obtain ⟨g, hg, e⟩ := np.2.2.2.1.2.2.2.2 v q
          exact absurd e (h4 g hg)
      rw [tvl_y q, v0, ix_of (n := 0) np.2.2.2.1.1 rfl]
      exact hE.1
    · exact tvl_n q
  · obtain ⟨n1, n2, n3⟩ := np.own hg
    obtain ⟨a0, a1, a2, -, -⟩ := np.nds hg
    rw [tvl_y (List.mem_append_right _ a0), lv_nl a1, lv_nl a2, hE.2.2 _ n1 n2]
    rcases np.two hg with ⟨e1, e2⟩ | ⟨e1, e2⟩
    · rw [e1, e2]
    · rw [e1, e2, Nat.mul_comm]
theorem cnP_fil {P : Nat → Prop} (l : List Nat) : cnP P l = (l.filter (fun a => @decide (P a) (Classical.propDecidable _))).length := by
  induction l with
  | nil => rfl
  | cons a l ih =>
    by_cases q : P a
    · rw [cnP_y q, List.filter_cons_of_pos (by exact @decide_eq_true _ (Classical.propDecidable _) q), List.length_cons, ih]
      omega
    · rw [cnP_n q, List.filter_cons_of_neg (by simpa using q), ih]
theorem cnP_eqv {P : Nat → Prop} {l r : List Nat} (hl : l.Nodup) (hr : r.Nodup) (h : ∀ a, P a → (a ∈ l ↔ a ∈ r)) : cnP P l = cnP P r := by
  rw [cnP_fil, cnP_fil]
  refine ((List.perm_ext_iff_of_nodup (List.Pairwise.filter _ hl) (List.Pairwise.filter _ hr)).mpr (fun a => ?_)).length_eq
  rw [List.mem_filter, List.mem_filter]
  constructor
  · rintro ⟨a1, a2⟩
    exact ⟨(h a (by simpa using a2)).mp a1, a2⟩
  · rintro ⟨a1, a2⟩
    exact ⟨(h a (by simpa using a2)).mpr a1, a2⟩
theorem cnP_map {α : Type} {P : Nat → Prop} {f : α → Nat} (l : List α) : cnP P (l.map f) = cnP (fun a => P (f a)) l := by
  induction l with
  | nil => rfl
  | cons a l ih =>
    rw [List.map_cons]
    by_cases q : P (f a)
    · rw [cnP_y q, cnP_y (P := fun a => P (f a)) q, ih]
    · rw [cnP_n q, cnP_n (P := fun a => P (f a)) q, ih]
theorem NP.nodes (np : NP M I O A L OU G T dp hi lo) : (G.map (fun g => (sv L ++ T).idxOf (g.1 / 2))).Nodup ∧ ∀ n, n ∈ List.range' (I + 1) A ↔ n ∈ G.map (fun g => (sv L ++ T).idxOf (g.1 / 2)) := by
  constructor
  · refine List.pairwise_map.mpr (List.Pairwise.imp_of_mem (fun {a b} ha hb hab e => hab ?_) np.1.2.2.2.1.2)
    have h1 := (np.own ha).2.2
    rw [e, (np.own hb).2.2] at h1
    exact (Option.some.inj h1).symm
  · intro n
    rw [List.mem_range'_1, List.mem_map]
    constructor
    · rintro ⟨h1, h2⟩
      obtain ⟨g, hg, e, -⟩ := np.gate (n := n) (by omega) (by omega)
      exact ⟨g, hg, e⟩
    · rintro ⟨g, hg, rfl⟩
      obtain ⟨n1, n2, -⟩ := np.own hg
      omega
theorem NP.count (np : NP M I O A L OU G T dp hi lo) {C C' : Nat → Prop} (h : ∀ v, v ∈ sv L ++ T → (C ((sv L ++ T).idxOf v) ↔ C' v)) : cnP C (List.range' (I + 1) A) = cnP (fun g : gt => C' (g.1 / 2)) G := by
  rw [cnP_eqv (List.nodup_range' (step := 1)) np.nodes.1 (fun n _ => np.nodes.2 n), cnP_map]
  exact cnP_cg (fun g hg => h _ (List.mem_append_right _ (np.2.2.2.2.1 g hg)))
theorem NP.cone (np : NP M I O A L OU G T dp hi lo) {sd sd' : Nat → Prop} (h1 : ∀ v, sd' v → v ∈ sv L ++ T) (h2 : ∀ v, v ∈ sv L ++ T → (sd ((sv L ++ T).idxOf v) ↔ sd' v)) {v : Nat} (hv : v ∈ sv L ++ T) :
    cn I (I + 1 + A) sd (fun n => hi n / 2) (fun n => lo n / 2) ((sv L ++ T).idxOf v) ↔ rch G sd' v := by
  have two : ∀ {g : gt}, g ∈ G → (hi ((sv L ++ T).idxOf (g.1 / 2)) / 2 = (sv L ++ T).idxOf (gM g / 2) ∧ lo ((sv L ++ T).idxOf (g.1 / 2)) / 2 = (sv L ++ T).idxOf (gm g / 2)) ∨ (hi ((sv L ++ T).idxOf (g.1 / 2)) / 2 = (sv L ++ T).idxOf (gm g / 2) ∧ lo ((sv L ++ T).idxOf (g.1 / 2)) / 2 = (sv L ++ T).idxOf (gM g / 2)) := fun {g} hg => by
    rcases np.two hg with ⟨e1, e2⟩ | ⟨e1, e2⟩
    · rw [e1, e2, (nl_half _ _).1, (nl_half _ _).1]; exact Or.inl ⟨rfl, rfl⟩
    · rw [e1, e2, (nl_half _ _).1, (nl_half _ _).1]; exact Or.inr ⟨rfl, rfl⟩
  constructor
  · intro hc
    refine hc (fun k => ∀ v, (sv L ++ T)[k]? = some v → rch G sd' v) (fun s hs u hu => ?_) (fun n hn n1 n2 => ?_) v (ix_get hv)
    · have e := ix_of np.2.2.2.1.1 hu
      rw [← e] at hs
      exact rch.sd ((h2 u (List.mem_of_getElem? hu)).mp hs)
    · obtain ⟨g, hg, e, e'⟩ := np.gate n1 n2
      have hr := hn _ e'
      obtain ⟨a0, a1, a2, -, -⟩ := np.nds hg
      have t := two hg
      rw [e] at t
      have go : ∀ k u, k = (sv L ++ T).idxOf u → (u = gM g / 2 ∨ u = gm g / 2) → ∀ z, (sv L ++ T)[k]? = some z → rch G sd' z := fun k u hk hu z hz => by
        have hm : u ∈ sv L ++ T := by
          rcases hu with hu | hu
          · rw [hu]; exact a1
          · rw [hu]; exact a2
        rw [hk, ix_get hm] at hz
        cases hz
        refine hr.step ⟨g, hg, rfl, ?_⟩
        rcases hu with hu | hu
        · exact Or.inl hu.symm
        · exact Or.inr hu.symm
      rcases t with ⟨t1, t2⟩ | ⟨t1, t2⟩
      · exact ⟨go _ _ t1 (Or.inl rfl), go _ _ t2 (Or.inr rfl)⟩
      · exact ⟨go _ _ t1 (Or.inr rfl), go _ _ t2 (Or.inl rfl)⟩
  · intro hr
    refine (hr (fun u => u ∈ sv L ++ T ∧ cn I (I + 1 + A) sd (fun n => hi n / 2) (fun n => lo n / 2) ((sv L ++ T).idxOf u)) (fun s hs => ⟨h1 s hs, cn_sd ((h2 s (h1 s hs)).mpr hs)⟩) (fun x y hx ex => ?_)).2
    obtain ⟨g, hg, e1, e2⟩ := ex
    obtain ⟨n1, n2, -⟩ := np.own hg
    obtain ⟨a0, a1, a2, -, -⟩ := np.nds hg
    rw [← e1] at hx
    obtain ⟨c1, c2⟩ := cn_st hx.2 n1 n2
    have t := two hg
    rcases e2 with e2 | e2
    · rw [← e2]
      refine ⟨a1, ?_⟩
      rcases t with ⟨t1, t2⟩ | ⟨t1, t2⟩
      · rw [← t1]; exact c1
      · rw [← t2]; exact c2
    · rw [← e2]
      refine ⟨a2, ?_⟩
      rcases t with ⟨t1, t2⟩ | ⟨t1, t2⟩
      · rw [← t2]; exact c2
      · rw [← t1]; exact c1
/-- the cone of a literal has as many gates for the class as for the reference -/
theorem NP.coneOf (np : NP M I O A L OU G T dp hi lo) {m : Nat} (hm : m / 2 ∈ sv L ++ T) :
    cnP (cn I (I + 1 + A) (fun k => k = nl (sv L ++ T) m / 2) (fun n => hi n / 2) (fun n => lo n / 2)) (List.range' (I + 1) A) = cnP (fun g : gt => rch G (fun u => u = m / 2) (g.1 / 2)) G := by
  refine np.count (fun v hv => np.cone (fun v e => ?_) (fun v hv => ?_) hv)
  · rw [e]; exact hm
  · rw [(nl_half _ m).1]
    refine ⟨fun e => ?_, fun e => by rw [e]⟩
    have := ix_get hv
    rw [e, ix_get hm] at this
    cases this
    rfl
theorem NP.oCr (np : NP M I O A L OU G T dp hi lo) {v : Nat} (hv : v ∈ sv L ++ T) : oC I A hi lo fo (sv L ++ T) OU ((sv L ++ T).idxOf v) ↔ rch G (oS OU) v := by
  refine np.cone (fun v ⟨x, hx, e⟩ => by rw [← e]; exact np.stn (np.2.1 x hx)) (fun v hv => ?_) hv
  constructor
  · rintro ⟨x, hx, e⟩
    refine ⟨x, hx, ?_⟩
    have e' : (sv L ++ T).idxOf v = (sv L ++ T).idxOf (x / 2) := e.trans (nl_half _ x).1
    have := ix_get hv
    rw [e', ix_get (np.stn (np.2.1 x hx))] at this
    cases this
    rfl
  · rintro ⟨x, hx, e⟩
    refine ⟨x, hx, ?_⟩
    show _ = nl (sv L ++ T) x / 2
    rw [(nl_half _ x).1, e]
theorem NP.cOr (np : NP M I O A L OU G T dp hi lo) : cO I A hi lo fo (sv L ++ T) OU = cnP (fun g : gt => rch G (oS OU) (g.1 / 2)) G := np.count (fun _ hv => np.oCr (fo := fo) hv)
