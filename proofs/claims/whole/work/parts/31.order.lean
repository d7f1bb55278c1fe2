-- THE ORDER OF NODES, pure: S lists the variables by their nodes; a pass at depth d goes along the waiting gates
abbrev gM (g : gt) : Nat := max g.2.1 g.2.2
abbrev gm (g : gt) : Nat := min g.2.1 g.2.2
def dG (G : List gt) : Prop := ∀ g ∈ G, ∀ g' ∈ G, g.1 / 2 = g'.1 / 2 → g = g'
theorem pw_dG : ∀ {G : List gt}, G.Pairwise (fun x y => x.1 / 2 ≠ y.1 / 2) → dG G
  | [], _, g, hg, _, _, _ => by cases hg
  | a :: G, h, g, hg, g', hg', e => by
    obtain ⟨h1, h2⟩ := List.pairwise_cons.mp h
    rcases List.mem_cons.mp hg with q | q
    · rcases List.mem_cons.mp hg' with q' | q'
      · rw [q, q']
      · rw [q] at e; exact absurd e (h1 g' q')
    · rcases List.mem_cons.mp hg' with q' | q'
      · rw [q'] at e; exact absurd e.symm (h1 g q)
      · exact pw_dG h2 g q g' q' e
abbrev nd1 (S : List Nat) (g : gt) : Prop := gM g / 2 ∈ S ∧ gm g / 2 ∈ S
abbrev lx (dp : Nat → Nat) (u v : Nat) : Prop := dp u < dp v ∨ (dp u = dp v ∧ u < v)
def pI (S0 : List Nat) (G : List gt) (T : List Nat) (dp : Nat → Nat) : Prop :=
  (S0 ++ T).Nodup ∧
  (∀ g ∈ G, g.1 / 2 ∈ T → (nd1 (S0 ++ T) g ∧ (S0 ++ T).idxOf (gM g / 2) < (S0 ++ T).idxOf (g.1 / 2) ∧ (S0 ++ T).idxOf (gm g / 2) < (S0 ++ T).idxOf (g.1 / 2)) ∧ dp (g.1 / 2) = 1 + max (dp (gM g / 2)) (dp (gm g / 2))) ∧
  (∀ v, v ∉ T → dp v = 0) ∧ T.Pairwise (lx dp) ∧ ∀ u ∈ T, ∃ g ∈ G, g.1 / 2 = u
theorem ix_app {S : List Nat} {u v : Nat} (h : v ∈ S) : (S ++ [u]).idxOf v = S.idxOf v := by rw [List.idxOf_append, if_pos h]
theorem ix_last {S : List Nat} {u : Nat} (h : u ∉ S) : (S ++ [u]).idxOf u = S.length := by
  rw [List.idxOf_append, if_neg h, List.idxOf_cons_self, Nat.zero_add]
theorem nd_snoc {S : List Nat} {u : Nat} (h : S.Nodup) (hu : u ∉ S) : (S ++ [u]).Nodup := by
  refine List.nodup_append.mpr ⟨h, List.nodup_cons.mpr ⟨fun q => (by cases q), List.nodup_nil⟩, fun a ha b hb e => ?_⟩
  rw [List.mem_singleton.mp hb] at e
  exact hu (e ▸ ha)
theorem pI.add {S0 : List Nat} {G : List gt} {T : List Nat} {dp : Nat → Nat} {g : gt} {d : Nat} (h : pI S0 G T dp) (hG : dG G) (hg : g ∈ G) (hu : g.1 / 2 ∉ S0 ++ T) (hn : nd1 (S0 ++ T) g) (hd : d = 1 + max (dp (gM g / 2)) (dp (gm g / 2))) (hl : ∀ u ∈ T, dp u < d ∨ (dp u = d ∧ u < g.1 / 2)) :
    pI S0 G (T ++ [g.1 / 2]) (va_up dp (g.1 / 2) d) := by
  obtain ⟨h1, h2, h3, h4, h5⟩ := h
  have ne : ∀ v, v ∈ S0 ++ T → v ≠ g.1 / 2 := fun v hv e => hu (e ▸ hv)
  have neT : ∀ v, v ∈ T → v ≠ g.1 / 2 := fun v hv => ne v (List.mem_append_right _ hv)
  refine ⟨?_, fun g' hg' hm => ?_, fun v hv => ?_, ?_, fun u hu' => ?_⟩
  · rw [← List.append_assoc]; exact nd_snoc h1 hu
  · rw [← List.append_assoc]
    have key : ∀ x, x ∈ S0 ++ T → x ∈ S0 ++ T ++ [g.1 / 2] ∧ (S0 ++ T ++ [g.1 / 2]).idxOf x = (S0 ++ T).idxOf x ∧ va_up dp (g.1 / 2) d x = dp x := fun x hx => ⟨List.mem_append_left _ hx, ix_app hx, va_up_ne _ _ (ne x hx)⟩
    rcases List.mem_append.mp hm with hm | hm
    · obtain ⟨⟨q1, q2, q3⟩, q4⟩ := h2 g' hg' hm
      obtain ⟨a1, a2, a3⟩ := key _ q1.1
      obtain ⟨b1, b2, b3⟩ := key _ q1.2
      obtain ⟨c1, c2, c3⟩ := key _ (List.mem_append_right S0 hm)
      rw [a2, b2, c2, a3, b3, c3]
      exact ⟨⟨⟨a1, b1⟩, q2, q3⟩, q4⟩
    · have e := hG g' hg' g hg (List.mem_singleton.mp hm)
      subst e
      obtain ⟨a1, a2, a3⟩ := key _ hn.1
      obtain ⟨b1, b2, b3⟩ := key _ hn.2
      rw [a2, b2, a3, b3, ix_last hu, va_up_self]
      exact ⟨⟨⟨a1, b1⟩, List.idxOf_lt_length_of_mem hn.1, List.idxOf_lt_length_of_mem hn.2⟩, hd⟩
  · rw [va_up_ne _ _ (fun e => hv (by rw [e]; exact List.mem_append_right _ (List.mem_singleton.mpr rfl)))]
    exact h3 v (fun q => hv (List.mem_append_left _ q))
  · refine List.pairwise_append.mpr ⟨?_, List.pairwise_singleton _ _, fun a ha b hb => ?_⟩
    · refine List.Pairwise.imp_of_mem (fun {a b} ha hb hab => ?_) h4
      unfold lx
      rw [va_up_ne _ _ (neT a ha), va_up_ne _ _ (neT b hb)]
      exact hab
    · rw [List.mem_singleton.mp hb]
      unfold lx
      rw [va_up_ne _ _ (neT a ha), va_up_self]
      exact hl a ha
  · rcases List.mem_append.mp hu' with q | q
    · exact h5 u q
    · exact ⟨g, hg, (List.mem_singleton.mp q).symm⟩
/-- a waiting gate at the start of depth d's pass: some need of it isn't there, or came in the last pass -/
abbrev p6 (S : List Nat) (dp : Nat → Nat) (d : Nat) (g : gt) : Prop := gM g / 2 ∉ S ∨ dp (gM g / 2) + 1 = d ∨ gm g / 2 ∉ S ∨ dp (gm g / 2) + 1 = d
abbrev pO (a b : gt) : Prop := a.1 / 2 < b.1 / 2
def pS (S0 : List Nat) (G : List gt) (d : Nat) (T : List Nat) (dp : Nat → Nat) (W : List gt) : Prop :=
  pI S0 G T dp ∧ (∀ u ∈ T, dp u < d) ∧ W.Pairwise pO ∧ (∀ g ∈ W, g ∈ G ∧ g.1 / 2 ∉ S0 ++ T ∧ p6 (S0 ++ T) dp d g) ∧ (∀ g ∈ G, g.1 / 2 ∈ T ∨ g ∈ W) ∧ 1 ≤ d
def qI (S0 : List Nat) (G : List gt) (T : List Nat) (dp : Nat → Nat) (d : Nat) (rest K : List gt) (R : List Nat) (dc : Nat → Nat) : Prop :=
  pI S0 G (T ++ R) dc ∧ ((∀ u ∈ R, dc u = d) ∧ (∀ v, v ∉ R → dc v = dp v) ∧ (∀ u ∈ T, dp u < d) ∧ 1 ≤ d) ∧
  (∀ u ∈ R, ∀ g ∈ rest, u < g.1 / 2) ∧
  (∀ g ∈ K, g ∈ G ∧ g.1 / 2 ∉ S0 ++ (T ++ R) ∧ ¬ nd1 (S0 ++ T) g) ∧
  (K ++ rest).Pairwise pO ∧
  (∀ g ∈ rest, g ∈ G ∧ g.1 / 2 ∉ S0 ++ (T ++ R) ∧ p6 (S0 ++ T) dp d g) ∧
  (∀ g ∈ G, g.1 / 2 ∈ T ++ R ∨ g ∈ K ∨ g ∈ rest)
theorem qI_0 {S0 : List Nat} {G : List gt} {d : Nat} {T : List Nat} {dp : Nat → Nat} {W : List gt} (h : pS S0 G d T dp W) : qI S0 G T dp d W [] [] dp := by
  obtain ⟨h1, h2, h3, h4, h5, h6⟩ := h
  refine ⟨by rw [List.append_nil]; exact h1, ⟨fun u hu => (by cases hu), fun v _ => rfl, h2, h6⟩, fun u hu => (by cases hu), fun g hg => (by cases hg), h3, by rw [List.append_nil]; exact h4, fun g hg => ?_⟩
  rw [List.append_nil]
  rcases h5 g hg with q | q
  · exact Or.inl q
  · exact Or.inr (Or.inr q)
theorem qI_no {S0 : List Nat} {G : List gt} {d : Nat} {T : List Nat} {dp dc : Nat → Nat} {g : gt} {rest K : List gt} {R : List Nat} (h : qI S0 G T dp d (g :: rest) K R dc) (hn : ¬ nd1 (S0 ++ T) g) : qI S0 G T dp d rest (K ++ [g]) R dc := by
  obtain ⟨h1, h2, h3, h4, h5, h6, h7⟩ := h
  refine ⟨h1, h2, fun u hu g' hg' => h3 u hu g' (List.mem_cons_of_mem _ hg'), fun g' hg' => ?_, by rw [List.append_assoc]; exact h5, fun g' hg' => h6 g' (List.mem_cons_of_mem _ hg'), fun g' hg' => ?_⟩
  · rcases List.mem_append.mp hg' with q | q
    · exact h4 g' q
    · rw [List.mem_singleton.mp q]
      obtain ⟨a, b, -⟩ := h6 g List.mem_cons_self
      exact ⟨a, b, hn⟩
  · rcases h7 g' hg' with q | q | q
    · exact Or.inl q
    · exact Or.inr (Or.inl (List.mem_append_left _ q))
    · rcases List.mem_cons.mp q with q | q
      · exact Or.inr (Or.inl (List.mem_append_right _ (List.mem_singleton.mpr q)))
      · exact Or.inr (Or.inr q)
theorem qI_yes {S0 : List Nat} {G : List gt} {d : Nat} {T : List Nat} {dp dc : Nat → Nat} {g : gt} {rest K : List gt} {R : List Nat} (hG : dG G) (h : qI S0 G T dp d (g :: rest) K R dc) (hn : nd1 (S0 ++ T) g) : qI S0 G T dp d rest K (R ++ [g.1 / 2]) (va_up dc (g.1 / 2) d) := by
  obtain ⟨h1, ⟨h2, h2', h2'', hd⟩, h3, h4, h5, h6, h7⟩ := h
  obtain ⟨hg, hu, hp⟩ := h6 g List.mem_cons_self
  have hnR : ∀ v, v ∈ S0 ++ T → v ∉ R ∧ v ∈ S0 ++ (T ++ R) := fun v hv => by
    have nd := h1.1
    rw [← List.append_assoc] at nd
    exact ⟨fun q => (List.nodup_append.mp nd).2.2 v hv v q rfl, by rw [← List.append_assoc]; exact List.mem_append_left _ hv⟩
  have hdp : ∀ v, v ∈ S0 ++ T → dp v < d := fun v hv => by
    by_cases q : v ∈ T
    · exact h2'' v q
    · rw [← h2' v (hnR v hv).1, h1.2.2.1 v (fun z => (List.mem_append.mp z).elim q (hnR v hv).1)]
      exact hd
  have hu2 : g.1 / 2 ∉ R := fun q => hu (List.mem_append_right _ (List.mem_append_right _ q))
  have a1 := hdp _ hn.1
  have a2 := hdp _ hn.2
  have hd2 : d = 1 + max (dc (gM g / 2)) (dc (gm g / 2)) := by
    rw [h2' _ (hnR _ hn.1).1, h2' _ (hnR _ hn.2).1]
    rcases hp with q | q | q | q
    · exact absurd hn.1 q
    · omega
    · exact absurd hn.2 q
    · omega
  refine ⟨?_, ⟨fun u hu' => ?_, fun v hv => ?_, h2'', hd⟩, fun u hu' g' hg' => ?_, fun g' hg' => ?_, ?_, fun g' hg' => ?_, fun g' hg' => ?_⟩
  · rw [← List.append_assoc]
    refine h1.add hG hg hu ⟨(hnR _ hn.1).2, (hnR _ hn.2).2⟩ hd2 (fun u hu' => ?_)
    rcases List.mem_append.mp hu' with q | q
    · have hnd : u ∈ S0 ++ T := List.mem_append_right _ q
      rw [h2' u (hnR u hnd).1]
      exact Or.inl (h2'' u q)
    · exact Or.inr ⟨h2 u q, h3 u q g List.mem_cons_self⟩
  · rcases List.mem_append.mp hu' with q | q
    · rw [va_up_ne _ _ (show u ≠ g.1 / 2 from fun e => hu2 (e ▸ q))]; exact h2 u q
    · rw [List.mem_singleton.mp q, va_up_self]
  · rw [va_up_ne _ _ (fun e => hv (by rw [e]; exact List.mem_append_right _ (List.mem_singleton.mpr rfl)))]
    exact h2' v (fun q => hv (List.mem_append_left _ q))
  · rcases List.mem_append.mp hu' with q | q
    · exact h3 u q g' (List.mem_cons_of_mem _ hg')
    · rw [List.mem_singleton.mp q]
      exact (List.pairwise_cons.mp (List.pairwise_append.mp h5).2.1).1 g' hg'
  · obtain ⟨k1, k2, k3⟩ := h4 g' hg'
    refine ⟨k1, fun q => ?_, k3⟩
    rw [← List.append_assoc, ← List.append_assoc, List.mem_append, List.append_assoc] at q
    rcases q with q | q
    · exact k2 q
    · have := (List.pairwise_append.mp h5).2.2 g' hg' g List.mem_cons_self
      have e := List.mem_singleton.mp q
      unfold pO at this
      omega
  · refine List.Pairwise.sublist ?_ h5
    exact List.Sublist.append_left (List.sublist_cons_self g rest) K
  · obtain ⟨k1, k2, k3⟩ := h6 g' (List.mem_cons_of_mem _ hg')
    refine ⟨k1, fun q => ?_, k3⟩
    rw [← List.append_assoc, ← List.append_assoc, List.mem_append, List.append_assoc] at q
    rcases q with q | q
    · exact k2 q
    · have := (List.pairwise_cons.mp (List.pairwise_append.mp h5).2.1).1 g' hg'
      have e := List.mem_singleton.mp q
      unfold pO at this
      omega
  · rcases h7 g' hg' with q | q | q
    · rw [← List.append_assoc]; exact Or.inl (List.mem_append_left _ q)
    · exact Or.inr (Or.inl q)
    · rcases List.mem_cons.mp q with q | q
      · rw [q, ← List.append_assoc]; exact Or.inl (List.mem_append_right _ (List.mem_singleton.mpr rfl))
      · exact Or.inr (Or.inr q)
theorem qI_end {S0 : List Nat} {G : List gt} {d : Nat} {T : List Nat} {dp dc : Nat → Nat} {K : List gt} {R : List Nat} (h : qI S0 G T dp d [] K R dc) : pS S0 G (d + 1) (T ++ R) dc K := by
  obtain ⟨h1, ⟨h2, h2', h2'', hd⟩, h3, h4, h5, h6, h7⟩ := h
  rw [List.append_nil] at h5
  refine ⟨h1, fun u hu => ?_, h5, fun g hg => ?_, fun g hg => ?_, by omega⟩
  · by_cases q : u ∈ R
    · rw [h2 u q]; omega
    · rw [h2' u q]
      have := h2'' u ((List.mem_append.mp hu).resolve_right q)
      omega
  · obtain ⟨k1, k2, k3⟩ := h4 g hg
    refine ⟨k1, k2, ?_⟩
    have key : ∀ v, v ∉ S0 ++ T → v ∉ S0 ++ (T ++ R) ∨ dc v + 1 = d + 1 := fun v hv => by
      by_cases q : v ∈ R
      · exact Or.inr (by rw [h2 v q])
      · refine Or.inl (fun z => ?_)
        rw [← List.append_assoc] at z
        exact (List.mem_append.mp z).elim hv q
    by_cases q : gM g / 2 ∈ S0 ++ T
    · have q2 : gm g / 2 ∉ S0 ++ T := fun z => k3 ⟨q, z⟩
      exact Or.inr (Or.inr (key _ q2))
    · rcases key _ q with z | z
      · exact Or.inl z
      · exact Or.inr (Or.inl z)
  · rcases h7 g hg with q | q | q
    · exact Or.inl q
    · exact Or.inr q
    · cases q
