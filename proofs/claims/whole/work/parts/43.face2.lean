-- THE CLASS'S FACE, second half
variable {h : sx_H} {n er pl c c' M I O A : Nat} {t : Nat → Nat} {tx L OU T : List Nat} {G : List gt} {dp hi lo fo : Nat → Nat}
def ow (b : Nat → Nat) : List Nat → Nat → Nat
  | [], _ => 0
  | x :: r, o => b x * 2 ^ o + ow b r (o + 1)
theorem nI_or (a b : Nat) : nI a ||| nI b = nI (a ||| b) := Int32.toBitVec_inj.mp (BitVec.ofNat_or (w := 32) (x := a) (y := b)).symm
theorem e_outputs {y : Int32} {v : Nat} {f : Int32 → sx_H → Prop} (ik : IK h n t tx er pl c c' M I O A L OU G T dp hi lo fo) (hy : y = nI v) (hv : v < 2 ^ I)
    (H : ∀ h' vl, kz h h' → IK h' n t tx er pl c c' M I O A L OU G T dp hi lo fo → vE I (I + 1 + A) v hi lo vl → (∀ n, n < I + 1 + A → vl n < 2) → f (nI (ow (fun x => lv vl (nl (sv L ++ T) x)) OU 0)) h') :
    sx_X sx_w 64 0 [some (.ref 0), some (.int y), none, none] [] h (sx_qi f) := by
  obtain ⟨hc, -⟩ := ik.cc
  obtain ⟨x1, x2, x3, ⟨h4, h5⟩, x5, ci⟩ := ik
  have ik : IK h n t tx er pl c c' M I O A L OU G T dp hi lo fo := ⟨x1, x2, x3, ⟨h4, h5⟩, x5, ci⟩
  obtain ⟨lM, lI, lO, lA, lN⟩ := ci.le
  have hp := pw14 lI
  have lOU := ci.1.1.2.1.2.1
  obtain ⟨q0, q1, q2, q3, q4, q5, q6, q7, q8, q9, q10⟩ := cc_sh hc
  refine g_64_0 h 0 _ ⟨rfl, ?_⟩
  rw [h4]
  refine ⟨q0, e_takes q0 ci.2.1.1.1 lI (fun v' e' hv' => ⟨fun _ => ⟨rfl, rfl, rfl, ?_⟩, fun z => absurd z (by decide)⟩) (fun q => absurd ⟨by rw [hy, nI_toInt (by omega)]; omega, by rw [hy, nI_toInt (by omega)]; omega⟩ q)⟩
  rw [h4, hy]
  refine e_work hc ci.2.1.1.1 ci.2.1.1.2.1 lI lN ci.2.2.2.2.1 hv (fun h1 vl k1 hvl hE => ?_)
  have ik1 := ik.kp k1 (fun b hb => by omega)
  have h14 := ik1.2.2.2.1.1
  have ci1 := ik1.2.2.2.2.2
  have fin := H h1 vl (k1.kz (fun b hb => by omega)) ik1 hE (fun n hn => (hvl n hn).2)
  have key : ∀ (rest : List Nat) (o acc : Nat), OU.drop o = rest → o ≤ OU.length → acc < 2 ^ o → acc + ow (fun x => lv vl (nl (sv L ++ T) x)) rest o = ow (fun x => lv vl (nl (sv L ++ T) x)) OU 0 → sx_X sx_w 64 37 [some (.ref 0), some (.int (nI v)), some (.int (nI acc)), some (.int (nI o))] [] h1 (sx_qi f) := by
    intro rest
    induction rest with
    | nil =>
      intro o acc hd ho ha E
      have := dropn hd
      refine g_64_37 h1 0 _ _ _ ⟨rfl, ?_⟩
      rw [h14, ci1.2.1.1.2.2.1]
      refine ⟨q0, pk_le O o (fun _ => ?_) (fun z => (by omega))⟩
      have e2 : acc = ow (fun x => lv vl (nl (sv L ++ T) x)) OU 0 := by rw [← E]; rfl
      rw [← e2] at fin
      exact fin
    | cons x rest ih =>
      intro o acc hd _ ha E
      obtain ⟨ho, hx, hd'⟩ := dropc hd
      have hxO := List.mem_of_getElem? hx
      have hx2 := ci.1.1.2.2.2.2 x hxO
      have hxS := ci.1.stn (ci.1.2.1 x hxO)
      obtain ⟨n1, n2⟩ := ci1.nl hx2 hxS
      refine g_64_37 h1 0 _ _ _ ⟨rfl, ?_⟩
      rw [h14, ci1.2.1.1.2.2.1]
      refine ⟨q0, pk_le O o (fun z => (by omega)) (fun _ => ⟨rfl, rfl, rfl, q0, e_pick q2 (by decide) ⟨q0, ?_⟩⟩)⟩
      rw [pk_nI (by omega) (by decide), ci1.2.1.2.2.1 o x hx]
      refine e_nodeLiteral q0 q7 ci1.2.1.1.2.2.2 lM ⟨rfl, ?_⟩
      rw [n1]
      refine e_worked rfl (by omega) (hvl _ n2).1 ?_
      have hb : lv vl (nl (sv L ++ T) x) < 2 := lv_2 (hvl _ n2).2
      have e0 : fl (vl (nl (sv L ++ T) x / 2)) (nl (sv L ++ T) x % 2) = lv vl (nl (sv L ++ T) x) := rfl
      have hpo : 2 ^ o ≤ 2 ^ 16 := Nat.pow_le_pow_right (by decide) (by omega)
      have hmul : lv vl (nl (sv L ++ T) x) * 2 ^ o ≤ 1 * 2 ^ o := Nat.mul_le_mul_right _ (by omega)
      have es : nI acc ||| (nI (fl (vl (nl (sv L ++ T) x / 2)) (nl (sv L ++ T) x % 2)) <<< (nI o &&& 31)) = nI (acc + lv vl (nl (sv L ++ T) x) * 2 ^ o) := by
        rw [e0, pk_shlN (nI o &&& 31) o (smd (by omega)) (by omega), nI_or, Nat.or_comm, Nat.mul_comm, ← Nat.two_pow_add_eq_or_of_lt ha, Nat.add_comm]
      rw [es, nI_1]
      refine ih (o + 1) _ hd' (by omega) (by rw [Nat.pow_succ]; omega) ?_
      rw [← E]
      show _ = acc + (lv vl (nl (sv L ++ T) x) * 2 ^ o + _)
      omega
  exact key OU 0 0 rfl (Nat.zero_le _) (by decide) (Nat.zero_add _)
theorem e_outputs_t {y : Int32} (ik : IK h n t tx er pl c c' M I O A L OU G T dp hi lo fo) (hno : ¬ (0 ≤ y.toInt ∧ y.toInt < (2 ^ I : Nat))) :
    sx_X sx_r 64 0 [some (.ref 0), some (.int y), none, none] [] h (sx_qt 0 h) := by
  obtain ⟨hc, -⟩ := ik.cc
  obtain ⟨x1, x2, x3, ⟨h4, h5⟩, x5, ci⟩ := ik
  obtain ⟨lM, lI, lO, lA, lN⟩ := ci.le
  have hp := pw14 lI
  refine g_64_0 h 0 _ ⟨rfl, ?_⟩
  rw [h4]
  exact ⟨(cc_sh hc).1, e_takes (cc_sh hc).1 ci.2.1.1.1 lI (fun v' e' hv' => absurd ⟨by rw [e', nI_toInt (by omega)]; omega, by rw [e', nI_toInt (by omega)]; omega⟩ hno) (fun q => ⟨fun z => absurd rfl z, fun _ => ⟨rfl, rfl, rfl⟩⟩)⟩
def lcn (I O A : Nat) (w : Int32) : Nat := if w = 0 then I else if w = 1 then A else if w = 2 then O else if w = 3 then A else if w = 4 then A else 0
def lq (L OU : List Nat) (G : List gt) (w : Int32) (k : Nat) : Nat := if w = 0 then L.getD k 0 else if w = 1 then (G.getD k (0, 0, 0)).1 else if w = 2 then OU.getD k 0 else if w = 3 then gM (G.getD k (0, 0, 0)) else gm (G.getD k (0, 0, 0))
theorem e_countOf {sh : sx_S} {w : Int32} {f : Int32 → sx_H → Prop} (hk : (sh.1 c).1 = 5) (hI : h.1 c 0 = nI I) (hA : h.1 c 1 = nI A) (hO : h.1 c 2 = nI O) (H : f (nI (lcn I O A w)) h) : sx_X sh 23 0 [some (.ref c), some (.int w)] [] h (sx_qi f) := by
  unfold lcn at H
  refine g_23_0 h c w ⟨fun z => ⟨hk, ?_⟩, fun z => ⟨fun z1 => ⟨hk, ?_⟩, fun z1 => ⟨fun z2 => ⟨hk, ?_⟩, fun z2 => ⟨fun z3 => ⟨hk, ?_⟩, fun z3 => ⟨fun z4 => ⟨hk, ?_⟩, fun z4 => ?_⟩⟩⟩⟩⟩
  · rw [if_pos z] at H; rw [hI]; exact H
  · rw [if_neg z, if_pos z1] at H; rw [hA]; exact H
  · rw [if_neg z, if_neg z1, if_pos z2] at H; rw [hO]; exact H
  · rw [if_neg z, if_neg z1, if_neg z2, if_pos z3] at H; rw [hA]; exact H
  · rw [if_neg z, if_neg z1, if_neg z2, if_neg z3, if_pos z4] at H; rw [hA]; exact H
  · rw [if_neg z, if_neg z1, if_neg z2, if_neg z3, if_neg z4] at H; exact H
theorem getD_some {α : Type} {l : List α} {k : Nat} {d : α} (h : k < l.length) : l[k]? = some (l.getD k d) := by
  rw [List.getD_eq_getElem?_getD, List.getElem?_eq_getElem h]; rfl
theorem e_literal {w y : Int32} {k : Nat} {f : Int32 → sx_H → Prop} (ik : IK h n t tx er pl c c' M I O A L OU G T dp hi lo fo) (hy : y = nI k) (hk : k < lcn I O A w) (H : f (nI (lq L OU G w k)) h) :
    sx_X sx_w 65 0 [some (.ref 0), some (.int w), some (.int y)] [] h (sx_qi f) := by
  obtain ⟨hc, -⟩ := ik.cc
  obtain ⟨x1, x2, x3, ⟨h4, h5⟩, x5, ci⟩ := ik
  obtain ⟨lM, lI, lO, lA, lN⟩ := ci.le
  obtain ⟨lL, lOU, lG⟩ := ci.1.1.2.1
  obtain ⟨q0, q1, q2, q3, q4, q5, q6, q7, q8, q9, q10⟩ := cc_sh hc
  have hk3 : lcn I O A w ≤ 300 := by unfold lcn; (repeat' split) <;> omega
  subst hy
  refine g_65_0 h 0 _ _ ⟨fun z => absurd z (nI_pos (by omega)), fun _ => ⟨rfl, ?_⟩⟩
  rw [h4]
  refine ⟨q0, e_countOf q0 ci.2.1.1.1 ci.2.1.1.2.1 ci.2.1.1.2.2.1 (pk_lt k (lcn I O A w) (fun _ => ⟨rfl, ?_⟩) (fun z => (by omega)))⟩
  rw [h4]
  unfold lcn at hk
  unfold lq at H
  refine ⟨q0, g_24_0 h c w _ ⟨fun z => ⟨q0, e_pick q1 (by decide) ?_⟩, fun z => ⟨fun z1 => ⟨q0, e_pick q3 (by decide) ?_⟩, fun z1 => ⟨fun z2 => ⟨q0, e_pick q2 (by decide) ?_⟩, fun z2 => ⟨fun z3 => ⟨q0, e_pick q4 (by decide) ?_⟩, fun z3 => ⟨q0, e_pick q5 (by decide) ?_⟩⟩⟩⟩⟩⟩
  · rw [if_pos z] at hk H
    rw [pk_nI (by omega) (by decide), ci.2.1.2.1 k _ (getD_some (d := 0) (by omega))]
    exact H
  · rw [if_neg z, if_pos z1] at hk H
    rw [pk_nI (by omega) (by decide), (ci.2.1.2.2.2 k _ (getD_some (d := (0, 0, 0)) (by omega))).1]
    exact H
  · rw [if_neg z, if_neg z1, if_pos z2] at hk H
    rw [pk_nI (by omega) (by decide), ci.2.1.2.2.1 k _ (getD_some (d := 0) (by omega))]
    exact H
  · rw [if_neg z, if_neg z1, if_neg z2, if_pos z3] at hk H
    rw [pk_nI (by omega) (by decide), (ci.2.1.2.2.2 k _ (getD_some (d := (0, 0, 0)) (by omega))).2.1]
    exact H
  · rw [if_neg z, if_neg z1, if_neg z2, if_neg z3] at hk H
    have hk' : k < A := by
      by_cases z4 : w = 4
      · rw [if_pos z4] at hk; exact hk
      · rw [if_neg z4] at hk; omega
    rw [pk_nI (by omega) (by decide), (ci.2.1.2.2.2 k _ (getD_some (d := (0, 0, 0)) (by omega))).2.2]
    exact H
theorem e_literal_t {w y : Int32} (ik : IK h n t tx er pl c c' M I O A L OU G T dp hi lo fo) (hno : ¬ (0 ≤ y.toInt ∧ y.toInt < lcn I O A w)) :
    sx_X sx_r 65 0 [some (.ref 0), some (.int w), some (.int y)] [] h (sx_qt 2 h) := by
  obtain ⟨hc, -⟩ := ik.cc
  obtain ⟨x1, x2, x3, ⟨h4, h5⟩, x5, ci⟩ := ik
  obtain ⟨lM, lI, lO, lA, lN⟩ := ci.le
  obtain ⟨q0, -⟩ := cc_sh hc
  have hk3 : lcn I O A w ≤ 300 := by unfold lcn; (repeat' split) <;> omega
  refine g_65_0 h 0 _ _ ⟨fun z => ⟨rfl, rfl, rfl⟩, fun z => ⟨rfl, ?_⟩⟩
  rw [h4]
  obtain ⟨j, hj, rfl⟩ := nI_of z
  rw [nI_toInt hj] at hno
  exact ⟨q0, e_countOf q0 ci.2.1.1.1 ci.2.1.1.2.1 ci.2.1.1.2.2.1 (pk_lt j (lcn I O A w) (fun z => (by omega)) (fun z => ⟨rfl, rfl, rfl⟩))⟩
/-- how many gates the outputs need -/
noncomputable def cO (I A : Nat) (hi lo fo : Nat → Nat) (S OU : List Nat) : Nat := cnP (cn I (I + 1 + A) (sdO false fo S OU) (fun n => hi n / 2) (fun n => lo n / 2)) (List.range' (I + 1) A)
noncomputable def lka (n : Nat) (tx : List Nat) (er pl M I O A : Nat) (hi lo fo : Nat → Nat) (S OU : List Nat) (w : Int32) : Nat := if w = 0 then I else if w = 1 then A else if w = 2 then O else if w = 3 then M else if w = 4 then n else if w = 5 then tx.length else if w = 6 then er else if w = 7 then pl else cO I A hi lo fo S OU
theorem e_look {w : Int32} {f : Int32 → sx_H → Prop} (ik : IK h n t tx er pl c c' M I O A L OU G T dp hi lo fo) (hw : 0 ≤ w.toInt ∧ w.toInt ≤ 8)
    (H : ∀ h', kz h h' → IK h' n t tx er pl c c' M I O A L OU G T dp hi lo fo → f (nI (lka n tx er pl M I O A hi lo fo (sv L ++ T) OU w)) h') : sx_X sx_w 72 0 [some (.ref 0), some (.int w)] [] h (sx_qi f) := by
  obtain ⟨hc, -⟩ := ik.cc
  obtain ⟨x1, x2, x3, ⟨h4, h5⟩, x5, ci⟩ := ik
  have ik : IK h n t tx er pl c c' M I O A L OU G T dp hi lo fo := ⟨x1, x2, x3, ⟨h4, h5⟩, x5, ci⟩
  have H0 := H h (fun b _ => ⟨rfl, rfl⟩) ik
  obtain ⟨q0, -⟩ := cc_sh hc
  unfold lka at H0
  obtain ⟨j, hj, rfl⟩ := nI_of (x := w) (fun z => by have := ix_lt.mp z; omega)
  rw [nI_toInt hj] at hw
  refine g_72_0 h 0 _ ?_
  rw [h4]
  refine ⟨fun z => ⟨rfl, q0, ?_⟩, fun z0 => ⟨fun z => ⟨rfl, q0, ?_⟩, fun z1 => ⟨fun z => ⟨rfl, q0, ?_⟩, fun z2 => ⟨fun z => ⟨rfl, q0, ?_⟩, fun z3 => ⟨fun z => ⟨rfl, rfl, rfl, ?_⟩, fun z4 => ⟨fun z => ⟨rfl, rfl, rfl, ?_⟩, fun z5 => ⟨fun z => ⟨rfl, rfl, ?_⟩, fun z6 => ⟨fun z => ⟨rfl, rfl, ?_⟩, fun z7 => ⟨fun z => ⟨rfl, rfl, rfl, ?_⟩, fun z8 => ?_⟩⟩⟩⟩⟩⟩⟩⟩⟩
  · rw [if_pos z] at H0; rw [ci.2.1.1.1]; exact H0
  · rw [if_neg z0, if_pos z] at H0; rw [ci.2.1.1.2.1]; exact H0
  · rw [if_neg z0, if_neg z1, if_pos z] at H0; rw [ci.2.1.1.2.2.1]; exact H0
  · rw [if_neg z0, if_neg z1, if_neg z2, if_pos z] at H0; rw [ci.2.1.1.2.2.2]; exact H0
  · rw [if_neg z0, if_neg z1, if_neg z2, if_neg z3, if_pos z] at H0; rw [show h.1 (0 + 1 + 1) 0 = nI n from x1.1]; exact H0
  · rw [if_neg z0, if_neg z1, if_neg z2, if_neg z3, if_neg z4, if_pos z] at H0; rw [show h.1 (0 + 14 + 1) 0 = nI tx.length from x2.1]; exact H0
  · rw [if_neg z0, if_neg z1, if_neg z2, if_neg z3, if_neg z4, if_neg z5, if_pos z] at H0; rw [show h.1 (0 + 1) 1 = nI er from x3.1]; exact H0
  · rw [if_neg z0, if_neg z1, if_neg z2, if_neg z3, if_neg z4, if_neg z5, if_neg z6, if_pos z] at H0; rw [show h.1 (0 + 1) 2 = nI pl from x3.2]; exact H0
  · refine e_markOutputs (w := false) hc ci (fun h1 k1 _ => ?_)
    have := H h1 (k1.kz (fun b hb => by omega)) (ik.kp k1 (fun b hb => by omega))
    unfold lka at this
    rw [if_neg z0, if_neg z1, if_neg z2, if_neg z3, if_neg z4, if_neg z5, if_neg z6, if_neg z7] at this
    exact this
  · exfalso
    have : ∀ k, k ≤ 8 → (j = k → False) → True := fun _ _ _ => trivial
    have hj8 : j = 0 ∨ j = 1 ∨ j = 2 ∨ j = 3 ∨ j = 4 ∨ j = 5 ∨ j = 6 ∨ j = 7 ∨ j = 8 := by omega
    rcases hj8 with e | e | e | e | e | e | e | e | e
    · exact z0 (by rw [e]; rfl)
    · exact z1 (by rw [e]; rfl)
    · exact z2 (by rw [e]; rfl)
    · exact z3 (by rw [e]; rfl)
    · exact z4 (by rw [e]; rfl)
    · exact z5 (by rw [e]; rfl)
    · exact z6 (by rw [e]; rfl)
    · exact z7 (by rw [e]; rfl)
    · exact z8 (by rw [e]; rfl)
theorem e_look_t {w : Int32} (ik : IK h n t tx er pl c c' M I O A L OU G T dp hi lo fo) (hw : ¬ (0 ≤ w.toInt ∧ w.toInt ≤ 8)) : sx_X sx_r 72 0 [some (.ref 0), some (.int w)] [] h (sx_qt 0 h) := by
  have no : ∀ k : Nat, k ≤ 8 → ¬ w = nI k := fun k hk e => hw (by rw [e, nI_toInt (by omega)]; omega)
  exact g_72_0 h 0 _ ⟨fun z => absurd z (no 0 (by decide)), fun z0 => ⟨fun z => absurd z (no 1 (by decide)), fun z1 => ⟨fun z => absurd z (no 2 (by decide)), fun z2 => ⟨fun z => absurd z (no 3 (by decide)), fun z3 => ⟨fun z => absurd z (no 4 (by decide)), fun z4 => ⟨fun z => absurd z (no 5 (by decide)), fun z5 => ⟨fun z => absurd z (no 6 (by decide)), fun z6 => ⟨fun z => absurd z (no 7 (by decide)), fun z7 => ⟨fun z => absurd z (no 8 (by decide)), fun z8 => ⟨rfl, rfl, rfl⟩⟩⟩⟩⟩⟩⟩⟩⟩⟩
def fd (t : Nat → Nat) (n : Nat) (v : Int64) (p : Nat) : Nat := if p < n then t p else w8 v (p - n)
theorem ik_tape {h' : sx_H} {n' : Nat} {t' : Nat → Nat} (x : IK h n t tx er pl c c' M I O A L OU G T dp hi lo fo) (k : kp (fun b => b = 2 ∨ b = 3) h h') (b : br h' 2 1024 n' t') : IK h' n' t' tx er pl c c' M I O A L OU G T dp hi lo fo := by
  have hc := x.cc.1
  unfold cc at hc
  obtain ⟨x1, x2, x3, x4, x5, x6⟩ := x
  refine ⟨b, x2.kp k (by decide) (by decide), ?_, ?_, x5, x6.eq (fun j hj => k.i (by omega))⟩
  · rw [k.i (show ¬ (1 = 2 ∨ 1 = 3) by decide)]; exact x3
  · rw [k.2]; exact x4
theorem e_feed {y : Int32} {v : Int64} {k : Nat} {f : Int32 → sx_H → Prop} (ik : IK h n t tx er pl c c' M I O A L OU G T dp hi lo fo) (hy : y = nI k) (hk : 1 ≤ k ∧ k ≤ 8) (hn : n + k ≤ 8192)
    (H : ∀ h', kz h h' → IK h' (n + k) (fd t n v) tx er pl c c' M I O A L OU G T dp hi lo fo → f (nI (n + k)) h') :
    sx_X sx_w 61 0 [some (.ref 0), some (.int y), some (.long v), none, none] [] h (sx_qi f) := by
  have hb := ik.1
  have key : ∀ (e i : Nat) (h0 : sx_H), i + e = k → kp (fun b => b = 2 ∨ b = 3) h h0 → br h0 2 1024 (n + i) (fd t n v) → sx_X sx_w 61 52 [some (.ref 0), some (.int (nI k)), some (.long v), none, some (.int (nI i))] [] h0 (sx_qi f) := by
    intro e
    induction e with
    | zero =>
      intro i h0 hi k0 b0
      refine g_61_52 h0 0 _ _ _ (pk_le k i (fun _ => ⟨rfl, rfl, rfl, ?_⟩) (fun z => (by omega)))
      rw [show h0.1 (0 + 1 + 1) 0 = nI (n + i) from b0.1]
      rw [show i = k by omega] at b0 ⊢
      exact H h0 (k0.kz (fun b hb => by omega)) (ik_tape ik k0 b0)
    | succ e ih =>
      intro i h0 hi k0 b0
      refine g_61_52 h0 0 _ _ _ (pk_le k i (fun z => (by omega)) (fun _ => ⟨rfl, rfl, rfl, ?_⟩))
      rw [show nI i * 8 = nI (8 * i) by rw [show (8 : Int32) = nI 8 from rfl, pk_mul, Nat.mul_comm], w8_get v (by omega)]
      refine e_add (a := 0 + 1 + 1) (W := 1024) rfl rfl rfl (by decide) b0 (by omega) (fun h1 b1 k1 => ?_)
      rw [nI_1]
      refine ih (i + 1) h1 (by omega) (k0.tr k1) (b1.cg (fun p hp => ?_))
      by_cases q : p = n + i
      · rw [q, va_up_self, nI_mod]
        unfold fd
        rw [if_neg (by omega), Nat.add_sub_cancel_left]
        have := w8_lt v i
        omega
      · rw [va_up_ne _ _ q]
  have hb0 : br h 2 1024 (n + 0) (fd t n v) := hb.cg (fun p hp => by unfold fd; rw [if_pos hp])
  subst hy
  refine g_61_0 h 0 _ _ (pk_lt (y := 1) k 1 (fun z => (by omega)) (fun _ => pk_le (y := 8) k 8 (fun _ => ⟨rfl, rfl, rfl, ?_⟩) (fun z => (by omega))))
  rw [show h.1 (0 + 1 + 1) 0 = nI n from hb.1, show (8192 : Int32) - nI k = nI (8192 - k) from pk_sub (a := 8192) (by omega)]
  exact pk_le n (8192 - k) (fun _ => key k 0 h (by omega) kp.rf hb0) (fun z => (by omega))
theorem e_feed_t0 {y : Int32} {v : Int64} (hno : ¬ (1 ≤ y.toInt ∧ y.toInt ≤ 8)) :
    sx_X sx_r 61 0 [some (.ref 0), some (.int y), some (.long v), none, none] [] h (sx_qt 0 h) := by
  have l1 : y < 1 ↔ y.toInt < 1 := Int32.lt_iff_toInt_lt
  have l8 : y ≤ 8 ↔ y.toInt ≤ 8 := Int32.le_iff_toInt_le
  exact g_61_0 h 0 _ _ ⟨fun z => ⟨rfl, rfl, rfl⟩, fun z => ⟨fun z2 => absurd ⟨by have : ¬ y.toInt < 1 := fun q => z (l1.mpr q); omega, l8.mp z2⟩ hno, fun z2 => ⟨rfl, rfl, rfl⟩⟩⟩
theorem e_feed_t1 {y : Int32} {v : Int64} {k : Nat} (ik : IK h n t tx er pl c c' M I O A L OU G T dp hi lo fo) (hy : y = nI k) (hk : 1 ≤ k ∧ k ≤ 8) (hn : ¬ n + k ≤ 8192) :
    sx_X sx_r 61 0 [some (.ref 0), some (.int y), some (.long v), none, none] [] h (sx_qt 1 h) := by
  have hb := ik.1
  have := hb.2.1
  subst hy
  refine g_61_0 h 0 _ _ (pk_lt (y := 1) k 1 (fun z => (by omega)) (fun _ => pk_le (y := 8) k 8 (fun _ => ⟨rfl, rfl, rfl, ?_⟩) (fun z => (by omega))))
  rw [show h.1 (0 + 1 + 1) 0 = nI n from hb.1, show (8192 : Int32) - nI k = nI (8192 - k) from pk_sub (a := 8192) (by omega)]
  exact pk_le n (8192 - k) (fun z => (by omega)) (fun z => ⟨rfl, rfl, rfl⟩)
