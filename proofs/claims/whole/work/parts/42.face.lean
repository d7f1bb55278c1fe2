-- THE CLASS'S FACE: what each call answers, and when it throws (sx_r: nothing is written then)
variable {h : sx_H} {n er pl c c' M I O A : Nat} {t : Nat → Nat} {tx L OU T : List Nat} {G : List gt} {dp hi lo fo : Nat → Nat}
/-- the class's cells -/
def IK (h : sx_H) (n : Nat) (t : Nat → Nat) (tx : List Nat) (er pl c c' M I O A : Nat) (L OU : List Nat) (G : List gt) (T : List Nat) (dp hi lo fo : Nat → Nat) : Prop :=
  br h 2 1024 n t ∧ tb h tx ∧ (h.1 1 1 = nI er ∧ h.1 1 2 = nI pl) ∧ (h.2.2 0 4 = c ∧ h.2.2 0 5 = c') ∧ ((c = 17 ∧ c' = 28) ∨ (c = 28 ∧ c' = 17)) ∧ CI h c M I O A L OU G T dp hi lo fo
/-- the reference's cells are kept -/
def kz (h h' : sx_H) : Prop := ∀ b, 39 ≤ b → h'.1 b = h.1 b ∧ h'.2.1 b = h.2.1 b
theorem kp.kz {S : Nat → Prop} {h h' : sx_H} (k : kp S h h') (hS : ∀ b, S b → b < 39) : kz h h' := fun b hb => k.1 b (fun q => by have := hS b q; omega)
theorem IK.cc (x : IK h n t tx er pl c c' M I O A L OU G T dp hi lo fo) : cc c ∧ cc c' := by
  rcases x.2.2.2.2.1 with ⟨a, b⟩ | ⟨a, b⟩
  · exact ⟨Or.inl a, Or.inr b⟩
  · exact ⟨Or.inr a, Or.inl b⟩
theorem IK.kp {h' : sx_H} {S : Nat → Prop} (x : IK h n t tx er pl c c' M I O A L OU G T dp hi lo fo) (k : kp S h h') (hS : ∀ b, S b → 11 ≤ b ∧ b ≤ 13) : IK h' n t tx er pl c c' M I O A L OU G T dp hi lo fo := by
  obtain ⟨x1, x2, x3, x4, x5, x6⟩ := x
  have ne : ∀ b, (b < 11 ∨ 13 < b) → ¬ S b := fun b hb q => by have := hS b q; omega
  refine ⟨x1.kp k (ne _ (by omega)) (ne _ (by omega)), x2.kp k (ne _ (by omega)) (ne _ (by omega)), ?_, ?_, x5, x6.eq (fun j hj => k.i (ne _ (by omega)))⟩
  · rw [k.i (ne 1 (by omega))]; exact x3
  · rw [k.2]; exact x4
def sx_qt (k : Nat) (h : sx_H) : sx_Q := fun w h' => w = some (.retAddr k) ∧ h' = h
theorem e_value {x y : Int32} {m v : Nat} {f : Int32 → sx_H → Prop} (ik : IK h n t tx er pl c c' M I O A L OU G T dp hi lo fo) (hx : ith M (sv L ++ T) x m) (hy : y = nI v) (hv : v < 2 ^ I)
    (H : ∀ h' vl, kz h h' → IK h' n t tx er pl c c' M I O A L OU G T dp hi lo fo → vE I (I + 1 + A) v hi lo vl → (∀ n, n < I + 1 + A → vl n < 2) → f (nI (lv vl (nl (sv L ++ T) m))) h') :
    sx_X sx_w 63 0 [some (.ref 0), some (.int x), some (.int y), none] [] h (sx_qi f) := by
  obtain ⟨hc, -⟩ := ik.cc
  obtain ⟨x1, x2, x3, ⟨h4, h5⟩, x5, ci⟩ := ik
  have ik : IK h n t tx er pl c c' M I O A L OU G T dp hi lo fo := ⟨x1, x2, x3, ⟨h4, h5⟩, x5, ci⟩
  obtain ⟨lM, lI, lO, lA, lN⟩ := ci.le
  have hp := pw14 lI
  refine g_63_0 h 0 _ _ ⟨rfl, ?_⟩
  rw [h4]
  refine ⟨(cc_sh hc).1, e_nodeLitC rfl hc ci (fun m' hm' hl => ?_) (fun q => absurd ⟨m, hx⟩ q)⟩
  have em : m' = m := by
    have b1 := hm'.2.1
    have b2 := hx.2.1
    exact (nI_eq (by omega) (by omega)).mp (hm'.1.symm.trans hx.1)
  subst em
  refine ⟨fun _ => ⟨rfl, ?_⟩, fun z => absurd (nI_pos' (by omega)) z⟩
  rw [h4]
  refine ⟨(cc_sh hc).1, e_takes (cc_sh hc).1 ci.2.1.1.1 lI (fun v' e' hv' => ⟨fun _ => ⟨rfl, rfl, rfl, ?_⟩, fun z => absurd z (by decide)⟩) (fun q => absurd ⟨by rw [hy, nI_toInt (by omega)]; omega, by rw [hy, nI_toInt (by omega)]; omega⟩ q)⟩
  rw [h4, hy]
  refine e_work hc ci.2.1.1.1 ci.2.1.1.2.1 lI lN ci.2.2.2.2.1 hv (fun h1 vl k1 hvl hE => ⟨rfl, rfl, e_worked rfl (by omega) (hvl _ hl).1 ?_⟩)
  exact H h1 vl (k1.kz (fun b hb => by omega)) (ik.kp k1 (fun b hb => by omega)) hE (fun n hn => (hvl n hn).2)
theorem e_value_t {x y : Int32} (ik : IK h n t tx er pl c c' M I O A L OU G T dp hi lo fo) (hno : (¬ ∃ m, ith M (sv L ++ T) x m) ∨ ¬ (0 ≤ y.toInt ∧ y.toInt < (2 ^ I : Nat))) :
    sx_X sx_r 63 0 [some (.ref 0), some (.int x), some (.int y), none] [] h (sx_qt 0 h) := by
  obtain ⟨hc, -⟩ := ik.cc
  obtain ⟨x1, x2, x3, ⟨h4, h5⟩, x5, ci⟩ := ik
  obtain ⟨lM, lI, lO, lA, lN⟩ := ci.le
  have hp := pw14 lI
  refine g_63_0 h 0 _ _ ⟨rfl, ?_⟩
  rw [h4]
  refine ⟨(cc_sh hc).1, e_nodeLitC rfl hc ci (fun m' hm' hl => ?_) (fun q => ⟨fun z => absurd z (by decide), fun _ => ⟨rfl, rfl, rfl⟩⟩)⟩
  have hno2 := hno.resolve_left (fun z => z ⟨m', hm'⟩)
  refine ⟨fun _ => ⟨rfl, ?_⟩, fun z => absurd (nI_pos' (by omega)) z⟩
  rw [h4]
  refine ⟨(cc_sh hc).1, e_takes (cc_sh hc).1 ci.2.1.1.1 lI (fun v' e' hv' => absurd ⟨by rw [e', nI_toInt (by omega)]; omega, by rw [e', nI_toInt (by omega)]; omega⟩ hno2) (fun q => ⟨fun z => absurd rfl z, fun _ => ⟨rfl, rfl, rfl⟩⟩)⟩
theorem e_depth {x : Int32} {m : Nat} {f : Int32 → sx_H → Prop} (ik : IK h n t tx er pl c c' M I O A L OU G T dp hi lo fo) (hx : ith M (sv L ++ T) x m) (H : f (nI (dp (m / 2))) h) :
    sx_X sx_w 66 0 [some (.ref 0), some (.int x), none] [] h (sx_qi f) := by
  obtain ⟨hc, -⟩ := ik.cc
  obtain ⟨x1, x2, x3, ⟨h4, h5⟩, x5, ci⟩ := ik
  obtain ⟨lM, lI, lO, lA, lN⟩ := ci.le
  refine g_66_0 h 0 _ ⟨rfl, ?_⟩
  rw [h4]
  refine ⟨(cc_sh hc).1, e_nodeLitC rfl hc ci (fun m' hm' hl => ?_) (fun q => absurd ⟨m, hx⟩ q)⟩
  have em : m' = m := by
    have b1 := hm'.2.1
    have b2 := hx.2.1
    exact (nI_eq (by omega) (by omega)).mp (hm'.1.symm.trans hx.1)
  subst em
  refine ⟨fun _ => ⟨rfl, ?_⟩, fun z => absurd (nI_pos' (by omega)) z⟩
  rw [h4]
  refine ⟨(cc_sh hc).1, e_pick (cc_sh hc).2.2.2.2.2.2.1 (by decide) ?_⟩
  have e : nl (sv L ++ T) m' / 2 = (sv L ++ T).idxOf (m' / 2) := by unfold nl; omega
  rw [sh_half (by omega), pk_nI (by omega) (by decide), e, ci.2.2.2.1 _ _ (ix_get hx.2.2)]
  exact H
theorem e_depth_t {x : Int32} (ik : IK h n t tx er pl c c' M I O A L OU G T dp hi lo fo) (hno : ¬ ∃ m, ith M (sv L ++ T) x m) :
    sx_X sx_r 66 0 [some (.ref 0), some (.int x), none] [] h (sx_qt 0 h) := by
  obtain ⟨hc, -⟩ := ik.cc
  obtain ⟨x1, x2, x3, ⟨h4, h5⟩, x5, ci⟩ := ik
  refine g_66_0 h 0 _ ⟨rfl, ?_⟩
  rw [h4]
  exact ⟨(cc_sh hc).1, e_nodeLitC rfl hc ci (fun m' hm' hl => absurd ⟨m', hm'⟩ hno) (fun q => ⟨fun z => absurd z (by decide), fun _ => ⟨rfl, rfl, rfl⟩⟩)⟩
theorem e_cone {x : Int32} {m : Nat} {f : Int32 → sx_H → Prop} (ik : IK h n t tx er pl c c' M I O A L OU G T dp hi lo fo) (hx : ith M (sv L ++ T) x m)
    (H : ∀ h', kz h h' → IK h' n t tx er pl c c' M I O A L OU G T dp hi lo fo → f (nI (cnP (cn I (I + 1 + A) (fun k => k = nl (sv L ++ T) m / 2) (fun n => hi n / 2) (fun n => lo n / 2)) (List.range' (I + 1) A))) h') :
    sx_X sx_w 67 0 [some (.ref 0), some (.int x), none] [] h (sx_qi f) := by
  obtain ⟨hc, -⟩ := ik.cc
  obtain ⟨x1, x2, x3, ⟨h4, h5⟩, x5, ci⟩ := ik
  have ik : IK h n t tx er pl c c' M I O A L OU G T dp hi lo fo := ⟨x1, x2, x3, ⟨h4, h5⟩, x5, ci⟩
  obtain ⟨lM, lI, lO, lA, lN⟩ := ci.le
  refine g_67_0 h 0 _ ⟨rfl, ?_⟩
  rw [h4]
  refine ⟨(cc_sh hc).1, e_nodeLitC rfl hc ci (fun m' hm' hl => ?_) (fun q => absurd ⟨m, hx⟩ q)⟩
  have em : m' = m := by
    have b1 := hm'.2.1
    have b2 := hx.2.1
    exact (nI_eq (by omega) (by omega)).mp (hm'.1.symm.trans hx.1)
  subst em
  refine ⟨fun _ => ⟨rfl, rfl, rfl, ?_⟩, fun z => absurd (nI_pos' (by omega)) z⟩
  rw [h4]
  exact e_markCone hc ci hl (fun h1 k1 => H h1 (k1.kz (fun b hb => by omega)) (ik.kp k1 (fun b hb => by omega)))
theorem e_cone_t {x : Int32} (ik : IK h n t tx er pl c c' M I O A L OU G T dp hi lo fo) (hno : ¬ ∃ m, ith M (sv L ++ T) x m) :
    sx_X sx_r 67 0 [some (.ref 0), some (.int x), none] [] h (sx_qt 0 h) := by
  obtain ⟨hc, -⟩ := ik.cc
  obtain ⟨x1, x2, x3, ⟨h4, h5⟩, x5, ci⟩ := ik
  refine g_67_0 h 0 _ ⟨rfl, ?_⟩
  rw [h4]
  exact ⟨(cc_sh hc).1, e_nodeLitC rfl hc ci (fun m' hm' hl => absurd ⟨m', hm'⟩ hno) (fun q => ⟨fun z => absurd z (by decide), fun _ => ⟨rfl, rfl, rfl⟩⟩)⟩
theorem e_folded {f : Int32 → sx_H → Prop} (ik : IK h n t tx er pl c c' M I O A L OU G T dp hi lo fo)
    (H : ∀ h', kz h h' → IK h' n t tx er pl c c' M I O A L OU G T dp hi lo fo → f (nI (cnP (cn I (I + 1 + A) (sdO true fo (sv L ++ T) OU) (fun n => fw true fo (hi n) / 2) (fun n => fw true fo (lo n) / 2)) (List.range' (I + 1) A))) h') :
    sx_X sx_w 68 0 [some (.ref 0)] [] h (sx_qi f) := by
  obtain ⟨hc, -⟩ := ik.cc
  refine g_68_0 h 0 ⟨rfl, rfl, rfl, ?_⟩
  rw [ik.2.2.2.1.1]
  exact e_markOutputs (w := true) hc ik.2.2.2.2.2 (fun h1 k1 _ => H h1 (k1.kz (fun b hb => by omega)) (ik.kp k1 (fun b hb => by omega)))
theorem e_alike {x y : Int32} {m m2 : Nat} {f : Int32 → sx_H → Prop} (ik : IK h n t tx er pl c c' M I O A L OU G T dp hi lo fo) (hx : ith M (sv L ++ T) x m) (hy : ith M (sv L ++ T) y m2)
    (H : f (if fw true fo (nl (sv L ++ T) m) = fw true fo (nl (sv L ++ T) m2) then 1 else if fw true fo (nl (sv L ++ T) m) / 2 = fw true fo (nl (sv L ++ T) m2) / 2 then -1 else 0) h) :
    sx_X sx_w 69 0 [some (.ref 0), some (.int x), some (.int y), none, none, none] [] h (sx_qi f) := by
  obtain ⟨hc, -⟩ := ik.cc
  obtain ⟨x1, x2, x3, ⟨h4, h5⟩, x5, ci⟩ := ik
  obtain ⟨lM, lI, lO, lA, lN⟩ := ci.le
  obtain ⟨q0, q1, q2, q3, q4, q5, q6, q7, q8, q9, q10⟩ := cc_sh hc
  refine g_69_0 h 0 _ _ ⟨rfl, ?_⟩
  rw [h4]
  refine ⟨q0, e_nodeLitC rfl hc ci (fun m' hm' hl => ?_) (fun q => absurd ⟨m, hx⟩ q)⟩
  have em : m' = m := by
    have b1 := hm'.2.1
    have b2 := hx.2.1
    exact (nI_eq (by omega) (by omega)).mp (hm'.1.symm.trans hx.1)
  subst em
  refine ⟨rfl, ?_⟩
  rw [h4]
  refine ⟨q0, e_nodeLitC rfl hc ci (fun m3 hm3 hl3 => ?_) (fun q => absurd ⟨m2, hy⟩ q)⟩
  have em : m3 = m2 := by
    have b1 := hm3.2.1
    have b2 := hy.2.1
    exact (nI_eq (by omega) (by omega)).mp (hm3.1.symm.trans hy.1)
  subst em
  refine ⟨fun z => absurd z (nI_pos (by omega)), fun _ => ⟨fun _ => ⟨rfl, ?_⟩, fun z => absurd (nI_pos' (by omega)) z⟩⟩
  rw [h4]
  have f1 := ci.2.2.2.2.2.1 _ hl
  have f2 := ci.2.2.2.2.2.1 _ hl3
  refine ⟨q0, e_foldOf q0 q10 (by omega) f1.1 ⟨rfl, ?_⟩⟩
  rw [h4]
  refine ⟨q0, e_foldOf q0 q10 (by omega) f2.1 ?_⟩
  have e1 : fl (fo (nl (sv L ++ T) m' / 2)) (nl (sv L ++ T) m' % 2) = fw true fo (nl (sv L ++ T) m') := rfl
  have e2 : fl (fo (nl (sv L ++ T) m3 / 2)) (nl (sv L ++ T) m3 % 2) = fw true fo (nl (sv L ++ T) m3) := rfl
  have b1 : fw true fo (nl (sv L ++ T) m') < 2 ^ 30 := by rw [← e1]; unfold fl; omega
  have b2 : fw true fo (nl (sv L ++ T) m3) < 2 ^ 30 := by rw [← e2]; unfold fl; omega
  rw [e1, e2, nI_xor]
  revert H b1 b2
  generalize fw true fo (nl (sv L ++ T) m') = a
  generalize fw true fo (nl (sv L ++ T) m3) = b
  intro H b1 b2
  have hx2 := Nat.xor_lt_two_pow (x := a) (y := b) (n := 30) b1 b2
  refine pk_en (y := 0) (a ^^^ b) 0 (fun z => pk_en (y := 1) (a ^^^ b) 1 (fun z1 => ?_) (fun z1 => ?_)) (fun z => ?_)
  · have ne : a ≠ b := fun q => z (by rw [q, Nat.xor_self])
    rw [if_neg ne, if_neg (fun q => z1 (xor_1.mpr ⟨q, ne⟩))] at H
    exact H
  · obtain ⟨a1, a2⟩ := xor_1.mp z1
    rw [if_neg a2, if_pos a1] at H
    exact H
  · rw [if_pos (xor_0 z)] at H
    exact H
theorem e_alike_t {x y : Int32} (ik : IK h n t tx er pl c c' M I O A L OU G T dp hi lo fo) (hno : (¬ ∃ m, ith M (sv L ++ T) x m) ∨ ¬ ∃ m, ith M (sv L ++ T) y m) :
    sx_X sx_r 69 0 [some (.ref 0), some (.int x), some (.int y), none, none, none] [] h (sx_qt 0 h) := by
  obtain ⟨hc, -⟩ := ik.cc
  obtain ⟨x1, x2, x3, ⟨h4, h5⟩, x5, ci⟩ := ik
  obtain ⟨lM, lI, lO, lA, lN⟩ := ci.le
  refine g_69_0 h 0 _ _ ⟨rfl, ?_⟩
  rw [h4]
  refine ⟨(cc_sh hc).1, e_nodeLitC rfl hc ci (fun m' hm' hl => ?_) (fun q => ⟨rfl, ?_⟩)⟩
  · refine ⟨rfl, ?_⟩
    rw [h4]
    exact ⟨(cc_sh hc).1, e_nodeLitC rfl hc ci (fun m3 hm3 hl3 => absurd hno (fun z => z.elim (fun z => z ⟨m', hm'⟩) (fun z => z ⟨m3, hm3⟩))) (fun q => ⟨fun z => absurd z (nI_pos (by omega)), fun _ => ⟨fun z => absurd z (by decide), fun _ => ⟨rfl, rfl, rfl⟩⟩⟩)⟩
  · rw [h4]
    exact ⟨(cc_sh hc).1, e_nodeLitC rfl hc ci (fun m3 hm3 hl3 => ⟨fun _ => ⟨rfl, rfl, rfl⟩, fun z => absurd (by decide) z⟩) (fun q => ⟨fun _ => ⟨rfl, rfl, rfl⟩, fun z => absurd (by decide) z⟩)⟩
