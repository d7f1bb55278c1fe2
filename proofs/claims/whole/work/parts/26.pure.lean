-- READING, AS PURE WORDS: an error with its place, or what was read
theorem rl_len {t : Nat → Nat} {n : Nat} : ∀ {c p : Nat} {l : List (Nat × Nat)} {p2 : Nat}, rl t n c p = .inr (l, p2) → l.length = c
  | 0, p, l, p2, h => by cases h; rfl
  | c + 1, p, l, p2, h => by
    by_cases h1 : dg t n p
    · by_cases h2 : hd t n (num t n p).1 = (if c = 0 then 10 else 32)
      · rw [rl_y h1 h2] at h
        cases hr : rl t n c ((num t n p).1 + 1) with
        | inl q => rw [hr] at h; cases h
        | inr r => rw [hr] at h; cases h; rw [List.length_cons, rl_len hr]
      · rw [rl_b h1 h2] at h; cases h
    · rw [rl_n h1] at h; cases h
theorem rl_ok {t : Nat → Nat} {n : Nat} : ∀ {c p : Nat} {l : List (Nat × Nat)} {p2 : Nat}, p ≤ n → rl t n c p = .inr (l, p2) → p ≤ p2 ∧ p2 ≤ n ∧ ∀ x ∈ l, x.1 < 1000000000 ∧ x.2 ≤ n
  | 0, p, l, p2, hp, h => by cases h; exact ⟨Nat.le_refl _, hp, fun x hx => by cases hx⟩
  | c + 1, p, l, p2, hp, h => by
    by_cases h1 : dg t n p
    · by_cases h2 : hd t n (num t n p).1 = (if c = 0 then 10 else 32)
      · rw [rl_y h1 h2] at h
        have hlt : (num t n p).1 < n := hd_lt h2 (by split <;> decide)
        have hnp := num_pos t hp
        cases hr : rl t n c ((num t n p).1 + 1) with
        | inl q => rw [hr] at h; cases h
        | inr r =>
          rw [hr] at h
          cases h
          obtain ⟨g1, g2, g3⟩ := rl_ok (c := c) hlt hr
          refine ⟨by omega, g2, fun x hx => ?_⟩
          rcases List.mem_cons.mp hx with hx | hx
          · subst hx; exact ⟨num_bd t n p, hp⟩
          · exact g3 x hx
      · rw [rl_b h1 h2] at h; cases h
    · rw [rl_n h1] at h; cases h
def gv (l : List (Nat × Nat)) (i : Nat) : Nat := (l.getD i (0, 0)).1
def gs (l : List (Nat × Nat)) (i : Nat) : Nat := (l.getD i (0, 0)).2
theorem gvs {l : List (Nat × Nat)} {i : Nat} (h : i < l.length) : l[i]? = some (gv l i, gs l i) := by
  unfold gv gs
  rw [List.getD_eq_getElem?_getD, List.getElem?_eq_getElem h]
  rfl
theorem gv_lt {t : Nat → Nat} {n c p : Nat} {l : List (Nat × Nat)} {p2 i : Nat} (hp : p ≤ n) (h : rl t n c p = .inr (l, p2)) (hi : i < c) : gv l i < 1000000000 ∧ gs l i ≤ n := by
  have h1 := gvs (l := l) (i := i) (by rw [rl_len h]; exact hi)
  exact (rl_ok hp h).2.2 _ (List.mem_of_getElem? h1)
abbrev rE : Type := Nat × Nat
def bnd {α β : Type} (x : rE ⊕ α) (f : α → rE ⊕ β) : rE ⊕ β := match x with
  | .inl e => .inl e
  | .inr a => f a
theorem bnd_l {α β : Type} {e : rE} {f : α → rE ⊕ β} : bnd (.inl e) f = .inl e := rfl
theorem bnd_r {α β : Type} {a : α} {f : α → rE ⊕ β} : bnd (.inr a) f = f a := rfl
/-- a line, with its error -/
def rlE (t : Nat → Nat) (n e c p : Nat) : rE ⊕ (List (Nat × Nat) × Nat) := match rl t n c p with
  | .inl q => .inl (e, q)
  | .inr r => .inr r
theorem rlE_l {t : Nat → Nat} {n e c p q : Nat} (h : rl t n c p = .inl q) : rlE t n e c p = .inl (e, q) := by unfold rlE; rw [h]
theorem rlE_r {t : Nat → Nat} {n e c p : Nat} {r : List (Nat × Nat) × Nat} (h : rl t n c p = .inr r) : rlE t n e c p = .inr r := by unfold rlE; rw [h]
abbrev tkL (M : Nat) (L : List Nat) (G : List gt) (m : Nat) : Prop := m ≤ 2 * M + 1 ∧ 1 < m ∧ m % 2 = 0 ∧ fr L G (m / 2)
def ri (t : Nat → Nat) (n M : Nat) : Nat → Nat → List Nat → rE ⊕ (List Nat × Nat)
  | 0, p, L => .inr (L, p)
  | c + 1, p, L => bnd (rlE t n 5 1 p) fun r => if tkL M L [] (gv r.1 0) then ri t n M c r.2 (L ++ [gv r.1 0]) else .inl (6, gs r.1 0)
def ro (t : Nat → Nat) (n M : Nat) : Nat → Nat → List Nat → rE ⊕ (List Nat × Nat)
  | 0, p, L => .inr (L, p)
  | c + 1, p, L => bnd (rlE t n 5 1 p) fun r => if gv r.1 0 ≤ 2 * M + 1 then ro t n M c r.2 (L ++ [gv r.1 0]) else .inl (6, gs r.1 0)
def rg (t : Nat → Nat) (n M : Nat) (L : List Nat) : Nat → Nat → List gt → rE ⊕ (List gt × Nat)
  | 0, p, G => .inr (G, p)
  | c + 1, p, G => bnd (rlE t n 5 3 p) fun r =>
    if tkL M L G (gv r.1 0) then
      if gv r.1 1 ≤ 2 * M + 1 then
        if gv r.1 2 ≤ 2 * M + 1 then rg t n M L c r.2 (G ++ [(gv r.1 0, gv r.1 1, gv r.1 2)])
        else .inl (6, gs r.1 2)
      else .inl (6, gs r.1 1)
    else .inl (6, gs r.1 0)
def rsE (t : Nat → Nat) (n p : Nat) : rE ⊕ (Nat × Nat) := match rs t n p with
  | .inl q => .inl (5, q)
  | .inr r => .inr r
theorem rsE_l {t : Nat → Nat} {n p q : Nat} (h : rs t n p = .inl q) : rsE t n p = .inl (5, q) := by unfold rsE; rw [h]
theorem rsE_r {t : Nat → Nat} {n p : Nat} {r : Nat × Nat} (h : rs t n p = .inr r) : rsE t n p = .inr r := by unfold rsE; rw [h]
/-- one gate by bytes: own is its literal -/
def rb1 (t : Nat → Nat) (n own p : Nat) : rE ⊕ (gt × Nat) :=
  bnd (rsE t n p) fun r =>
    if r.1 = 0 ∨ own < r.1 then .inl (6, p) else
    bnd (rsE t n r.2) fun r2 => if own - r.1 < r2.1 then .inl (6, r.2) else .inr ((own, own - r.1, own - r.1 - r2.1), r2.2)
def rb (t : Nat → Nat) (n I : Nat) : Nat → Nat → List gt → rE ⊕ (List gt × Nat)
  | 0, p, G => .inr (G, p)
  | c + 1, p, G => bnd (rb1 t n (2 * (I + 1 + G.length)) p) fun r => rb t n I c r.2 (G ++ [r.1])
def rnd (t : Nat → Nat) (n p : Nat) : rE ⊕ Unit :=
  if p < n then if hd t n p = 99 then if hd t n (p + 1) = 10 then .inr () else .inl (5, p + 1) else .inl (5, p) else .inr ()
/-- what a text says: variables, inputs, outputs and gates due; inputs, outputs, gates -/
abbrev rC : Type := (Nat × Nat × Nat × Nat) × List Nat × List Nat × List gt
def bI : Nat → List Nat
  | 0 => []
  | k + 1 => bI k ++ [2 * (k + 1)]
theorem bI_len : ∀ k, (bI k).length = k
  | 0 => rfl
  | k + 1 => by show (bI k ++ [_]).length = _; rw [List.length_append, bI_len k]; rfl
def rIn (t : Nat → Nat) (n M I p : Nat) (bin : Bool) : rE ⊕ (List Nat × Nat) := cond bin (.inr (bI I, p)) (ri t n M I p [])
def rGt (t : Nat → Nat) (n M I A p : Nat) (L : List Nat) (bin : Bool) : rE ⊕ (List gt × Nat) := cond bin (rb t n I A p []) (rg t n M L A p [])
def rBody (t : Nat → Nat) (n M I O A p : Nat) (bin : Bool) : rE ⊕ rC :=
  bnd (rIn t n M I p bin) fun a => bnd (ro t n M O a.2 []) fun b => bnd (rGt t n M I A b.2 a.1 bin) fun g => bnd (rnd t n g.2) fun _ => .inr ((M, I, O, A), a.1, b.1, g.1)
abbrev szOK (M I O A : Nat) (bin : Bool) : Prop := M ≤ 1000 ∧ I ≤ 14 ∧ O ≤ 16 ∧ A ≤ 300 ∧ I + A ≤ M ∧ (bin = true → M = I + A)
def rFst (t : Nat → Nat) (n : Nat) (bin : Bool) : rE ⊕ ((Nat × Nat × Nat × Nat) × Nat) :=
  bnd (rlE t n 2 5 4) fun r =>
    if gv r.1 2 = 0 then
      if szOK (gv r.1 0) (gv r.1 1) (gv r.1 3) (gv r.1 4) bin then .inr ((gv r.1 0, gv r.1 1, gv r.1 3, gv r.1 4), r.2)
      else .inl (4, 0)
    else .inl (3, 0)
abbrev ltr (t : Nat → Nat) (n : Nat) : Prop := 3 < n ∧ t 0 = 97 ∧ (t 1 = 97 ∨ t 1 = 105) ∧ t 2 = 103 ∧ t 3 = 32
def rd (t : Nat → Nat) (n : Nat) : rE ⊕ rC :=
  if ltr t n then bnd (rFst t n (decide (t 1 = 105))) fun s => rBody t n s.1.1 s.1.2.1 s.1.2.2.1 s.1.2.2.2 s.2 (decide (t 1 = 105)) else .inl (1, 0)
-- what stands of what was read
/-- inputs so far -/
def okL (M : Nat) (L : List Nat) : Prop := (∀ x ∈ L, 1 < x ∧ x ≤ 2 * M + 1 ∧ x % 2 = 0) ∧ L.Pairwise (fun x y => x / 2 ≠ y / 2)
def okG (M : Nat) (L : List Nat) (G : List gt) : Prop := (∀ g ∈ G, 1 < g.1 ∧ g.1 ≤ 2 * M + 1 ∧ g.1 % 2 = 0 ∧ g.2.1 ≤ 2 * M + 1 ∧ g.2.2 ≤ 2 * M + 1 ∧ ∀ x ∈ L, x / 2 ≠ g.1 / 2) ∧ G.Pairwise (fun x y => x.1 / 2 ≠ y.1 / 2)
theorem okL.add {M x : Nat} {L : List Nat} (h : okL M L) (k : tkL M L [] x) : okL M (L ++ [x]) := by
  refine ⟨fun y hy => ?_, List.pairwise_append.mpr ⟨h.2, List.pairwise_singleton _ _, fun a ha b hb => ?_⟩⟩
  · rcases List.mem_append.mp hy with hy | hy
    · exact h.1 y hy
    · rw [List.mem_singleton.mp hy]; exact ⟨k.2.1, k.1, k.2.2.1⟩
  · rw [List.mem_singleton.mp hb]; exact k.2.2.2.1 a ha
theorem okG.add {M : Nat} {L : List Nat} {G : List gt} {g : gt} (h : okG M L G) (k : tkL M L G g.1) (h1 : g.2.1 ≤ 2 * M + 1) (h2 : g.2.2 ≤ 2 * M + 1) : okG M L (G ++ [g]) := by
  refine ⟨fun y hy => ?_, List.pairwise_append.mpr ⟨h.2, List.pairwise_singleton _ _, fun a ha b hb => ?_⟩⟩
  · rcases List.mem_append.mp hy with hy | hy
    · exact h.1 y hy
    · rw [List.mem_singleton.mp hy]; exact ⟨k.2.1, k.1, k.2.2.1, h1, h2, k.2.2.2.1⟩
  · rw [List.mem_singleton.mp hb]; exact k.2.2.2.2 a ha
