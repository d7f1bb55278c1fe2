-- THE CLASS'S FACE: load, write, out
variable {h : sx_H} {n er pl c c' M I O A : Nat} {t : Nat → Nat} {tx L OU T : List Nat} {G : List gt} {dp hi lo fo : Nat → Nat}
theorem e_loadK {f : Int32 → sx_H → Prop} (ik : IK h n t tx er pl c c' M I O A L OU G T dp hi lo fo)
    (H0 : ∀ e, ldR t n (.inl e) → ∀ h', kz h h' → IK h' 0 t tx e.1 e.2 c c' M I O A L OU G T dp hi lo fo → f (nI e.1) h')
    (H1 : ∀ r, ldR t n (.inr r) → ∀ h' T' dp' hi' lo' fo', kz h h' → IK h' 0 t tx 0 0 c' c r.1.1 r.1.2.1 r.1.2.2.1 r.1.2.2.2 r.2.1 r.2.2.1 r.2.2.2 T' dp' hi' lo' fo' → f 0 h') :
    sx_X sx_w 62 0 [some (.ref 0), none, none] [] h (sx_qi f) := by
  obtain ⟨hc, hc2⟩ := ik.cc
  obtain ⟨x1, x2, x3, ⟨h4, h5⟩, x5, ci⟩ := ik
  have hz : ∀ b, sF c' b → b < 39 := fun b hb => by unfold sF at hb; omega
  refine e_load hc2 x1 h4 h5 (fun e he h' k' e1 e2 b' => H0 e he h' (k'.kz hz) ⟨b', x2.kp k' ?_ ?_, ⟨e1, e2⟩, by rw [k'.2]; exact ⟨h4, h5⟩, x5, ci.eq (fun j hj => k'.i ?_)⟩) (fun r hr h' k' h4' h5' e1 e2 b' ex => ?_)
  · unfold sF; omega
  · unfold sF; omega
  · unfold sF; omega
  · obtain ⟨T', dp', hi', lo', fo', ci'⟩ := ex
    refine H1 r hr h' T' dp' hi' lo' fo' (fun b hb => k' b (fun q => by have := hz b q; omega)) ⟨b', ⟨?_, x2.2.1, fun i hi => ?_⟩, ⟨e1, e2⟩, ⟨h4', h5'⟩, by omega, ci'⟩
    · rw [(k' 15 (by unfold sF; omega)).1]; exact x2.1
    · rw [(k' (15 + 1) (by unfold sF; omega)).2]; exact x2.2.2 i hi
/-- the nodes that the outputs need -/
def oC (I A : Nat) (hi lo fo : Nat → Nat) (S OU : List Nat) : Nat → Prop := cn I (I + 1 + A) (sdO false fo S OU) (fun n => hi n / 2) (fun n => lo n / 2)
theorem cn_sd {I N : Nat} {sd : Nat → Prop} {a1 a2 : Nat → Nat} {k : Nat} (h : sd k) : cn I N sd a1 a2 k := fun _ a _ => a k h
theorem cn_st {I N : Nat} {sd : Nat → Prop} {a1 a2 : Nat → Nat} {k : Nat} (h : cn I N sd a1 a2 k) (h1 : I < k) (h2 : k < N) : cn I N sd a1 a2 (a1 k) ∧ cn I N sd a1 a2 (a2 k) := ⟨fun P a b => (b k (h P a b) h1 h2).1, fun P a b => (b k (h P a b) h1 h2).2⟩
theorem NP.lh (np : NP M I O A L OU G T dp hi lo) {k : Nat} (h1 : I < k) (h2 : k < I + 1 + A) : lo k ≤ hi k := by
  obtain ⟨g, hg, e, -⟩ := np.gate h1 h2
  obtain ⟨e1, e2⟩ := np.2.2.2.2.2.2 g hg
  rw [e] at e1 e2
  rw [e1, e2]
  omega
noncomputable def wtx (bin : Bool) (I O A : Nat) (hi lo fo : Nat → Nat) (S OU : List Nat) : List Nat := ctx bin I O A (cO I A hi lo fo S OU) (oC I A hi lo fo S OU) hi lo S OU
theorem e_write {bin : Bool} {f : Int32 → sx_H → Prop} (ik : IK h n t tx er pl c c' M I O A L OU G T dp hi lo fo)
    (H : ∀ h', kz h h' → IK h' n t (wtx bin I O A hi lo fo (sv L ++ T) OU) er pl c c' M I O A L OU G T dp hi lo fo → f (nI (wtx bin I O A hi lo fo (sv L ++ T) OU).length) h') :
    sx_X sx_w 70 0 [some (.ref 0), some (.int (if bin then 1 else 0)), none] [] h (sx_qi f) := by
  obtain ⟨hc, -⟩ := ik.cc
  have hc' := hc
  unfold cc at hc'
  obtain ⟨lM, lI, lO, lA, lN⟩ := ik.2.2.2.2.2.le
  refine g_70_0 h 0 _ ⟨rfl, rfl, rfl, ?_⟩
  rw [ik.2.2.2.1.1]
  refine e_markOutputs (w := false) hc ik.2.2.2.2.2 (fun h1 k1 iff => ⟨rfl, rfl, rfl, ?_⟩)
  have ik1 := ik.kp k1 (fun b hb => by omega)
  rw [ik1.2.2.2.1.1]
  refine e_numberMarked (C := oC I A hi lo fo (sv L ++ T) OU) hc ik1.2.2.2.2.2 iff (fun h2 k2 hw => ⟨rfl, rfl, rfl, rfl, ?_⟩)
  have ik2 := ik1.kp k2 (fun b hb => by omega)
  rw [ik2.2.2.2.1.1]
  have ha : cO I A hi lo fo (sv L ++ T) OU ≤ 300 := by
    have := cnP_len (P := oC I A hi lo fo (sv L ++ T) OU) (List.range' (I + 1) A)
    rw [List.length_range'] at this
    exact Nat.le_trans this lA
  refine e_compose (a := cO I A hi lo fo (sv L ++ T) OU) (C := oC I A hi lo fo (sv L ++ T) OU) (bin := bin) hc ik2.2.2.2.2.2 ha (fun k a b => ik.2.2.2.2.2.1.lh a b) (fun k hk => ?_) (fun k hk a b => cn_st hk a b) (fun x hx => cn_sd ⟨x, hx, rfl⟩) hw (fun h3 k3 t3 => ⟨rfl, rfl, rfl, ?_⟩)
  · rw [k2.i (show ¬ 12 = 13 by decide)]; exact iff k hk
  · rw [show h3.1 (0 + 14 + 1) 0 = _ from t3.1]
    refine H h3 ?_ ?_
    · intro b hb
      have a1 := k1.1 b (show ¬ b = 12 by omega)
      have a2 := k2.1 b (show ¬ b = 13 by omega)
      have a3 := k3.1 b (by unfold s56; omega)
      exact ⟨a3.1.trans (a2.1.trans a1.1), a3.2.trans (a2.2.trans a1.2)⟩
    · obtain ⟨x1, x2, x3, x4, x5, x6⟩ := ik2
      refine ⟨x1.kp k3 (by unfold s56; decide) (by unfold s56; decide), t3, ?_, ?_, x5, x6.eq (fun j hj => k3.i (by unfold s56; omega))⟩
      · rw [k3.i (show ¬ s56 1 by unfold s56; decide)]; exact x3
      · rw [k3.2]; exact x4
def ovl (tx : List Nat) (j : Nat) : Nat → Int64
  | 0 => 0
  | i + 1 => ovl tx j i ||| ((nI (tx.getD (j + i) 0)).toInt64 <<< (Int32.toInt64 (nI (8 * i)) &&& 63))
theorem mx0 {b : Nat} (hb : b < 2 ^ 31) : (if (0 : Int32) < nI b then nI b else 0) = nI b := by
  by_cases z : b = 0
  · subst z; rfl
  · rw [if_pos (show (0 : Int32) < nI b from nI_lt (a := 0) (by omega) hb)]
theorem e_out {y : Int32} {j : Nat} {f : Int64 → sx_H → Prop} (ik : IK h n t tx er pl c c' M I O A L OU G T dp hi lo fo) (hy : y = nI j) (hj : j < tx.length) (H : f (ovl tx j 8) h) :
    sx_X sx_w 71 0 [some (.ref 0), some (.int y), none, none, none, none, none] [] h (sx_ql f) := by
  have ht := ik.2.1
  have hl := ht.2.1
  have key : ∀ (e i : Nat) (o : Option Value), i + e = 8 → sx_X sx_w 71 33 [some (.ref 0), some (.int (nI j)), some (.long (ovl tx j i)), none, some (.int (nI i)), o, none] [] h (sx_ql f) := by
    intro e
    induction e with
    | zero =>
      intro i o hi
      refine g_71_33 h 0 _ _ _ o (pk_le 8 i (fun _ => ?_) (fun z => (by omega)))
      rw [show i = 8 by omega]
      exact H
    | succ e ih =>
      intro i o hi
      refine g_71_33 h 0 _ _ _ o (pk_le 8 i (fun z => (by omega)) (fun _ => ⟨rfl, rfl, rfl, ?_⟩))
      rw [nI_add]
      refine e_byteAt (a := 0 + 14 + 1) (W := 512) rfl rfl (by decide) ht ?_
      rw [hdI_nI (by omega)]
      have e1 : (if (0 : Int32) < hd (fun i => tx.getD i 0) tx.length (j + i) then hd (fun i => tx.getD i 0) tx.length (j + i) else 0) = nI (tx.getD (j + i) 0) := by
        unfold hd
        by_cases q : j + i < tx.length
        · rw [if_pos q]
          have hb : tx.getD (j + i) 0 < 256 := ht.lt q
          exact mx0 (b := tx.getD (j + i) 0) (by omega)
        · rw [if_neg q, if_neg (by decide), List.getD_eq_getElem?_getD, List.getElem?_eq_none (by omega)]
          rfl
      rw [e1, nI_1, show nI i * 8 = nI (8 * i) by rw [show (8 : Int32) = nI 8 from rfl, pk_mul, Nat.mul_comm]]
      exact ih (i + 1) _ (by omega)
  subst hy
  refine g_71_0 h 0 _ ⟨fun z => absurd z (nI_pos (by omega)), fun _ => ⟨rfl, rfl, rfl, ?_⟩⟩
  rw [show h.1 (0 + 14 + 1) 0 = _ from ht.1]
  exact pk_lt j tx.length (fun _ => key 8 0 _ rfl) (fun z => (by omega))
theorem e_out_t {y : Int32} (ik : IK h n t tx er pl c c' M I O A L OU G T dp hi lo fo) (hno : ¬ (0 ≤ y.toInt ∧ y.toInt < tx.length)) :
    sx_X sx_r 71 0 [some (.ref 0), some (.int y), none, none, none, none, none] [] h (sx_qt 2 h) := by
  have ht := ik.2.1
  have hl := ht.2.1
  refine g_71_0 h 0 _ ⟨fun z => ⟨rfl, rfl, rfl⟩, fun z => ⟨rfl, rfl, rfl, ?_⟩⟩
  obtain ⟨j, hj, rfl⟩ := nI_of z
  rw [nI_toInt hj] at hno
  rw [show h.1 (0 + 14 + 1) 0 = _ from ht.1]
  exact pk_lt j tx.length (fun z => (by omega)) (fun z => ⟨rfl, rfl, rfl⟩)
