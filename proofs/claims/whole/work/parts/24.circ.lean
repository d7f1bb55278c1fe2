-- A CIRCUIT'S OWN CELLS (object c, 17 or 28): leaves
def cc (c : Nat) : Prop := c = 17 ∨ c = 28
theorem cc_sh {c : Nat} (h : cc c) : (sx_shp c).1 = 5 ∧ sx_shp (c + 1) = (1, 14) ∧ sx_shp (c + 2) = (1, 16) ∧ sx_shp (c + 3) = (1, 300) ∧ sx_shp (c + 4) = (1, 300) ∧ sx_shp (c + 5) = (1, 300) ∧ sx_shp (c + 6) = (1, 315) ∧ sx_shp (c + 7) = (1, 1001) ∧ sx_shp (c + 8) = (1, 315) ∧ sx_shp (c + 9) = (1, 315) ∧ sx_shp (c + 10) = (1, 315) := by
  rcases h with rfl | rfl <;> exact ⟨rfl, rfl, rfl, rfl, rfl, rfl, rfl, rfl, rfl, rfl, rfl⟩
theorem sh_half {m : Nat} (h : m < 2 ^ 31) : nI m >>> (1 &&& 31) = nI (m / 2) := pk_shrN h (1 &&& 31) 1 (by decide)
theorem an_1 {m : Nat} (h : m < 2 ^ 31) : nI m &&& 1 = nI (m % 2) := pk_andN (k := 1) (by omega) (by decide)
theorem two_top {M : Nat} (hM : M ≤ 1000) : (2 * nI M) + 1 = nI (2 * M + 1) := by
  rw [show (2 : Int32) = nI 2 from rfl, pk_mul, nI_1]
theorem lt_nI {m : Nat} {x : Int32} (h : m < 2 ^ 31) : nI m < x ↔ (m : Int) < x.toInt := by rw [Int32.lt_iff_toInt_lt, nI_toInt h]
theorem e_isLiteral {sh : sx_S} {h : sx_H} {c M : Nat} {x : Int32} {f : Int32 → sx_H → Prop} (hk : (sh.1 c).1 = 5) (hM : h.1 c 3 = nI M) (hM' : M ≤ 1000) (H1 : 0 ≤ x.toInt → x.toInt ≤ 2 * M + 1 → f 1 h) (H0 : ¬ (0 ≤ x.toInt ∧ x.toInt ≤ 2 * M + 1) → f 0 h) :
    sx_X sh 7 0 [some (.ref c), some (.int x)] [] h (sx_qi f) := by
  refine g_7_0 h c x ⟨fun z => ⟨Or.inl rfl, H0 (fun q => ?_)⟩, fun z => ⟨hk, fun z2 => ⟨Or.inl rfl, H0 (fun q => ?_)⟩, fun z2 => ⟨Or.inr rfl, H1 ?_ ?_⟩⟩⟩
  · have := ix_lt.mp z; omega
  · rw [hM, two_top hM'] at z2
    have := (lt_nI (by omega)).mp z2
    omega
  · exact Int.not_lt.mp (fun q => z (ix_lt.mpr q))
  · rw [hM, two_top hM'] at z2
    have := Int.not_lt.mp (fun q => z2 ((lt_nI (m := 2 * M + 1) (by omega)).mpr (by omega)))
    omega
/-- whether an input or a gate may have the literal m, where the nodes' row is nd -/
abbrev tk (M : Nat) (nd : Nat → Int32) (m : Nat) : Prop := m ≤ 2 * M + 1 ∧ 1 < m ∧ m % 2 = 0 ∧ nd (m / 2) = 0
theorem e_canTake {sh : sx_S} {h : sx_H} {c M m : Nat} {f : Int32 → sx_H → Prop} (hk : (sh.1 c).1 = 5) (hs : sh.1 (c + 7) = (1, 1001)) (hM : h.1 c 3 = nI M) (hM' : M ≤ 1000) (hm : m < 2 ^ 31) (H1 : tk M (h.1 (c + 7)) m → f 1 h) (H0 : ¬ tk M (h.1 (c + 7)) m → f 0 h) :
    sx_X sh 8 0 [some (.ref c), some (.int (nI m))] [] h (sx_qi f) := by
  refine g_8_0 h c (nI m) ⟨hk, e_isLiteral hk hM hM' (fun q1 q2 => ⟨fun z => absurd z (by decide), fun _ => ?_⟩) (fun q => ⟨fun _ => ⟨Or.inl rfl, H0 (fun y => ?_)⟩, fun z => absurd rfl z⟩)⟩
  · rw [nI_toInt hm] at q2
    refine ⟨fun z => ⟨Or.inl rfl, H0 (fun y => ?_)⟩, fun z => ⟨fun z2 => ⟨Or.inl rfl, H0 (fun y => ?_)⟩, fun z2 => ⟨hk, ?_⟩⟩⟩
    · have := (nI_leI (b := 1) hm (by decide)).mp z
      omega
    · rw [an_1 hm, y.2.2.1] at z2
      exact z2 rfl
    · have h1 : ¬ m ≤ 1 := fun q => z (nI_le q (by decide))
      have h2 : m % 2 = 0 := by
        rw [an_1 hm] at z2
        exact (nI_eq (a := m % 2) (b := 0) (by omega) (by decide)).mp z2
      rw [sh_half hm]
      refine e_pick hs (by decide) ?_
      rw [pk_nI (by omega) (by decide)]
      exact ⟨fun z3 => ⟨Or.inl rfl, H0 (fun y => z3 y.2.2.2)⟩, fun z3 => ⟨Or.inr rfl, H1 ⟨by omega, by omega, h2, z3⟩⟩⟩
  · rw [nI_toInt hm] at q
    exact q ⟨by omega, by have := y.1; omega⟩
/-- the literal of a node, or -1 -/
def nlI (nd : Nat → Int32) (M : Nat) (x : Int32) : Int32 := if 0 ≤ x.toInt ∧ x.toInt ≤ 2 * M + 1 ∧ (¬ nd (x.toInt.toNat / 2) = 0 ∨ x.toInt ≤ 1) then 2 * nd (x.toInt.toNat / 2) + (x &&& 1) else -1
theorem e_nodeLiteral {sh : sx_S} {h : sx_H} {c M : Nat} {x : Int32} {f : Int32 → sx_H → Prop} (hk : (sh.1 c).1 = 5) (hs : sh.1 (c + 7) = (1, 1001)) (hM : h.1 c 3 = nI M) (hM' : M ≤ 1000) (H : f (nlI (h.1 (c + 7)) M x) h) :
    sx_X sh 11 0 [some (.ref c), some (.int x), none] [] h (sx_qi f) := by
  refine g_11_0 h c x ⟨hk, e_pick hs (by decide) ⟨hk, e_isLiteral hk hM hM' (fun q1 q2 => ⟨fun z => absurd z (by decide), fun _ => ?_⟩) (fun q => ⟨fun _ => ?_, fun z => absurd rfl z⟩)⟩⟩
  · obtain ⟨m, hm, rfl⟩ : ∃ m : Nat, m < 2 ^ 31 ∧ x = nI m := nI_of (fun z => by have := ix_lt.mp z; omega)
    unfold nlI at H
    rw [nI_toInt hm] at q2 H
    have hm2 : m ≤ 2 * M + 1 := by omega
    rw [sh_half hm, pk_nI (by omega) (by decide)]
    simp only [Int.toNat_natCast] at H
    have le1 : nI m ≤ 1 ↔ m ≤ 1 := nI_leI (b := 1) hm (by decide)
    refine ⟨fun z => ?_, fun z => ⟨fun z2 => ?_, fun z2 => ?_⟩⟩
    · rw [if_pos ⟨by omega, by omega, Or.inl z⟩] at H; exact H
    · rw [if_pos ⟨by omega, by omega, Or.inr (by have := le1.mp z2; omega)⟩] at H; exact H
    · rw [if_neg (fun y => by
        rcases y.2.2 with y | y
        · exact y z
        · exact z2 (le1.mpr (by omega)))] at H
      exact H
  · unfold nlI at H
    rw [if_neg (fun y => q ⟨y.1, y.2.1⟩)] at H
    exact H
