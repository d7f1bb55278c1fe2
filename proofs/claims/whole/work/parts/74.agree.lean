-- CLASS AND REFERENCE AGREE: every call, from a state where both hold the same
def INV (h : sx_H) : Prop := ∃ (n : Nat) (t : Nat → Nat) (tx : List Nat) (er pl c c' M I O A : Nat) (L OU : List Nat) (G : List gt) (T : List Nat) (dp hi lo fo : Nat → Nat), IK h n t tx er pl c c' M I O A L OU G T dp hi lo fo ∧ IR h n t tx er pl M I O A L OU G
variable {h : sx_H} {n er pl c c' M I O A : Nat} {t : Nat → Nat} {tx L OU T : List Nat} {G : List gt} {dp hi lo fo : Nat → Nat}
theorem CI.fx (ci : CI h c M I O A L OU G T dp hi lo fo) : FX M I O A L OU G T dp hi lo fo := ⟨ci.1, fun n hn => (ci.2.2.2.2.2.1 n hn).2, ci.2.2.2.2.2.2.1, ci.2.2.2.2.2.2.2⟩
theorem IK_hi {h' : sx_H} (x : IK h n t tx er pl c c' M I O A L OU G T dp hi lo fo) (k : kp (fun b => 39 ≤ b) h h') : IK h' n t tx er pl c c' M I O A L OU G T dp hi lo fo := by
  obtain ⟨i1, i2, i3, i4, i5, i6⟩ := x
  refine ⟨i1.kp k (by decide) (by decide), i2.kp k (by decide) (by decide), ⟨?_, ?_⟩, ⟨?_, ?_⟩, i5, i6.eq (fun j hj => k.i (by omega))⟩
  · rw [k.i (by decide)]; exact i3.1
  · rw [k.i (by decide)]; exact i3.2
  · rw [k.2]; exact i4.1
  · rw [k.2]; exact i4.2
theorem IK_kc {h' : sx_H} (x : IK h n t tx er pl c c' M I O A L OU G T dp hi lo fo) (k : kc h h') : IK h' n t tx er pl c c' M I O A L OU G T dp hi lo fo := IK_hi x (k.mo (fun b hb => by omega))
/-- the heap with the law's long set -/
abbrev ou (h : sx_H) (z : Int64) : sx_H := (h.1, sx_u h.2.1 39 0 z, h.2.2)
theorem ou_at (h : sx_H) (z : Int64) : (ou h z).2.1 39 0 = z := by
  show sx_u h.2.1 39 0 z 39 0 = z
  rw [sx_u_eq, va_up_self]
theorem IK_ou (x : IK h n t tx er pl c c' M I O A L OU G T dp hi lo fo) (z : Int64) : IK (ou h z) n t tx er pl c c' M I O A L OU G T dp hi lo fo := IK_hi x ⟨fun b hb => ⟨rfl, sx_u_ne (by omega)⟩, rfl⟩
theorem IR_kz {h' : sx_H} (x : IR h n t tx er pl M I O A L OU G) (k : kz h h') : IR h' n t tx er pl M I O A L OU G := by
  obtain ⟨i1, i2, i3, i4⟩ := x
  have e : ∀ b, 39 ≤ b → h'.1 b = h.1 b := fun b hb => (k b hb).1
  refine ⟨?_, i2.eq (e 42 (by decide)) (congrFun (e 40 (by decide)) 4), ⟨by rw [e 40 (by decide)]; exact i3.1, by rw [e 40 (by decide)]; exact i3.2⟩, i4.eq (fun j h1 h2 => e j (by omega)) (fun k h1 h2 => congrFun (e 40 (by decide)) k)⟩
  unfold mt
  rw [e 40 (by decide), e 41 (by decide)]
  exact i1
theorem IR_ou (x : IR h n t tx er pl M I O A L OU G) (z : Int64) : IR (ou h z) n t tx er pl M I O A L OU G := x
theorem INV.of {h' : sx_H} (x : IK h n t tx er pl c c' M I O A L OU G T dp hi lo fo) (k : kc h h') (y : IR h' n t tx er pl M I O A L OU G) : INV h' := ⟨n, t, tx, er, pl, c, c', M, I, O, A, L, OU, G, T, dp, hi, lo, fo, IK_kc x k, y⟩
/-- what stands behind a helper's call: the reference's call, its code, its answer -/
def B1 (jm : Nat) (ent : sx_L) : sx_Q := fun v h1 => ∃ k : Int32, v = some (.int k) ∧ sx_X sx_w jm 0 ent [] h1 (sx_qi fun b h2 => h2.1 40 0 = k ∧ (k = 0 → h2.2.1 39 0 = b.toInt64) ∧ INV h2)
def B2 (jm : Nat) (ent : sx_L) : sx_Q := fun v h1 => ∃ k : Int32, v = some (.int k) ∧ sx_X sx_w jm 0 ent [] h1 (sx_ql fun b h2 => h2.1 40 0 = k ∧ (k = 0 → h2.2.1 39 0 = b) ∧ INV h2)
theorem out_kc {h1 h2 : sx_H} (k : kc h1 h2) : h2.2.1 39 0 = h1.2.1 39 0 := congrFun (k.l (b := 39) (by omega)) 0
theorem a_value (inv : INV h) (x y : Int32) : sx_X sx_w 63 0 [some (.ref 0), some (.int x), some (.int y), none] [] h (sx_qi fun z h' => B1 109 [some (.ref 40), some (.int x), some (.int y)] (some (.int 0)) (ou h' z.toInt64)) ∨ (sx_X sx_r 63 0 [some (.ref 0), some (.int x), some (.int y), none] [] h (sx_qt 0 h) ∧ B1 109 [some (.ref 40), some (.int x), some (.int y)] (some (.int 1)) h) := by
  obtain ⟨n, t, tx, er, pl, c, c', M, I, O, A, L, OU, G, T, dp, hi, lo, fo, ik, ir⟩ := inv
  have np := ik.2.2.2.2.2.1
  have hI := np.1.1.2.1
  by_cases q : (∃ m, ith M (sv L ++ T) x m) ∧ (0 ≤ y.toInt ∧ y.toInt < (2 ^ I : Nat))
  · obtain ⟨⟨m, hm⟩, hy⟩ := q
    have hp := pw14 hI
    obtain ⟨v, hv, ey⟩ := nI_of (x := y) (fun z => by have := ix_lt.mp z; omega)
    have hv2 : v < 2 ^ I := by
      rw [ey, nI_toInt hv] at hy
      omega
    refine Or.inl (e_value ik hm ey hv2 (fun h' vl kz' ik' hE h2 => ⟨0, rfl, ?_⟩))
    refine f_value (IR_ou (IR_kz ir kz') _) np hm ey hv2 hE h2 (fun h2' pr => ⟨pr.2.1, fun _ => ?_, INV.of (IK_ou ik' _) pr.1 pr.2.2⟩)
    rw [out_kc pr.1, ou_at]
  · have hno : (¬ ∃ m, ith M (sv L ++ T) x m) ∨ ¬ (0 ≤ y.toInt ∧ y.toInt < (2 ^ I : Nat)) := by
      by_cases q1 : ∃ m, ith M (sv L ++ T) x m
      · exact Or.inr (fun z => q ⟨q1, z⟩)
      · exact Or.inl q1
    exact Or.inr ⟨e_value_t ik hno, 1, rfl, f_value_t ir np hno (fun h2' pr => ⟨pr.2.1, fun z => absurd z (by decide), INV.of ik pr.1 pr.2.2⟩)⟩
theorem a_outputs (inv : INV h) (y : Int32) : sx_X sx_w 64 0 [some (.ref 0), some (.int y), none, none] [] h (sx_qi fun z h' => B1 110 [some (.ref 40), some (.int y), none, none] (some (.int 0)) (ou h' z.toInt64)) ∨ (sx_X sx_r 64 0 [some (.ref 0), some (.int y), none, none] [] h (sx_qt 0 h) ∧ B1 110 [some (.ref 40), some (.int y), none, none] (some (.int 1)) h) := by
  obtain ⟨n, t, tx, er, pl, c, c', M, I, O, A, L, OU, G, T, dp, hi, lo, fo, ik, ir⟩ := inv
  have np := ik.2.2.2.2.2.1
  have hI := np.1.1.2.1
  by_cases hy : 0 ≤ y.toInt ∧ y.toInt < (2 ^ I : Nat)
  · have hp := pw14 hI
    obtain ⟨v, hv, ey⟩ := nI_of (x := y) (fun z => by have := ix_lt.mp z; omega)
    have hv2 : v < 2 ^ I := by
      rw [ey, nI_toInt hv] at hy
      omega
    refine Or.inl (e_outputs ik ey hv2 (fun h' vl kz' ik' hE h2 => ⟨0, rfl, ?_⟩))
    refine f_outputs (IR_ou (IR_kz ir kz') _) np ey hv2 hE h2 (fun h2' pr => ⟨pr.2.1, fun _ => ?_, INV.of (IK_ou ik' _) pr.1 pr.2.2⟩)
    rw [out_kc pr.1, ou_at]
  · exact Or.inr ⟨e_outputs_t ik hy, 1, rfl, f_outputs_t ir np hy (fun h2' pr => ⟨pr.2.1, fun z => absurd z (by decide), INV.of ik pr.1 pr.2.2⟩)⟩
theorem a_literal (inv : INV h) (w y : Int32) : sx_X sx_w 65 0 [some (.ref 0), some (.int w), some (.int y)] [] h (sx_qi fun z h' => B1 111 [some (.ref 40), some (.int w), some (.int y), none] (some (.int 0)) (ou h' z.toInt64)) ∨ (sx_X sx_r 65 0 [some (.ref 0), some (.int w), some (.int y)] [] h (sx_qt 2 h) ∧ B1 111 [some (.ref 40), some (.int w), some (.int y), none] (some (.int 1)) h) := by
  obtain ⟨n, t, tx, er, pl, c, c', M, I, O, A, L, OU, G, T, dp, hi, lo, fo, ik, ir⟩ := inv
  have wf' := ik.2.2.2.2.2.1.1
  by_cases hy : 0 ≤ y.toInt ∧ y.toInt < lcn I O A w
  · obtain ⟨k, hk, ey⟩ := nI_of (x := y) (fun z => by have := ix_lt.mp z; omega)
    have hk2 : k < lcn I O A w := by
      rw [ey, nI_toInt hk] at hy
      omega
    refine Or.inl (e_literal ik ey hk2 ⟨0, rfl, ?_⟩)
    refine f_literal (IR_ou ir _) wf' ey hk2 (fun h2' pr => ⟨pr.2.1, fun _ => ?_, INV.of (IK_ou ik _) pr.1 pr.2.2⟩)
    rw [out_kc pr.1, ou_at]
  · exact Or.inr ⟨e_literal_t ik hy, 1, rfl, f_literal_t ir wf' hy (fun h2' pr => ⟨pr.2.1, fun z => absurd z (by decide), INV.of ik pr.1 pr.2.2⟩)⟩
theorem a_depth (inv : INV h) (x : Int32) : sx_X sx_w 66 0 [some (.ref 0), some (.int x), none] [] h (sx_qi fun z h' => B1 112 [some (.ref 40), some (.int x)] (some (.int 0)) (ou h' z.toInt64)) ∨ (sx_X sx_r 66 0 [some (.ref 0), some (.int x), none] [] h (sx_qt 0 h) ∧ B1 112 [some (.ref 40), some (.int x)] (some (.int 1)) h) := by
  obtain ⟨n, t, tx, er, pl, c, c', M, I, O, A, L, OU, G, T, dp, hi, lo, fo, ik, ir⟩ := inv
  have np := ik.2.2.2.2.2.1
  by_cases q : ∃ m, ith M (sv L ++ T) x m
  · obtain ⟨m, hm⟩ := q
    refine Or.inl (e_depth ik hm ⟨0, rfl, ?_⟩)
    refine f_depth (IR_ou ir _) np hm (fun h2' pr => ⟨pr.2.1, fun _ => ?_, INV.of (IK_ou ik _) pr.1 pr.2.2⟩)
    rw [out_kc pr.1, ou_at]
  · exact Or.inr ⟨e_depth_t ik q, 1, rfl, f_depth_t ir np q (fun h2' pr => ⟨pr.2.1, fun z => absurd z (by decide), INV.of ik pr.1 pr.2.2⟩)⟩
theorem a_cone (inv : INV h) (x : Int32) : sx_X sx_w 67 0 [some (.ref 0), some (.int x), none] [] h (sx_qi fun z h' => B1 113 [some (.ref 40), some (.int x)] (some (.int 0)) (ou h' z.toInt64)) ∨ (sx_X sx_r 67 0 [some (.ref 0), some (.int x), none] [] h (sx_qt 0 h) ∧ B1 113 [some (.ref 40), some (.int x)] (some (.int 1)) h) := by
  obtain ⟨n, t, tx, er, pl, c, c', M, I, O, A, L, OU, G, T, dp, hi, lo, fo, ik, ir⟩ := inv
  have np := ik.2.2.2.2.2.1
  by_cases q : ∃ m, ith M (sv L ++ T) x m
  · obtain ⟨m, hm⟩ := q
    refine Or.inl (e_cone ik hm (fun h' kz' ik' => ⟨0, rfl, ?_⟩))
    refine f_cone (IR_ou (IR_kz ir kz') _) np hm (fun h2' pr => ⟨pr.2.1, fun _ => ?_, INV.of (IK_ou ik' _) pr.1 pr.2.2⟩)
    rw [out_kc pr.1, ou_at]
  · exact Or.inr ⟨e_cone_t ik q, 1, rfl, f_cone_t ir np q (fun h2' pr => ⟨pr.2.1, fun z => absurd z (by decide), INV.of ik pr.1 pr.2.2⟩)⟩
theorem a_alike (inv : INV h) (x y : Int32) : sx_X sx_w 69 0 [some (.ref 0), some (.int x), some (.int y), none, none, none] [] h (sx_qi fun z h' => B1 107 [some (.ref 40), some (.int x), some (.int y), none, none] (some (.int 0)) (ou h' z.toInt64)) ∨ (sx_X sx_r 69 0 [some (.ref 0), some (.int x), some (.int y), none, none, none] [] h (sx_qt 0 h) ∧ B1 107 [some (.ref 40), some (.int x), some (.int y), none, none] (some (.int 1)) h) := by
  obtain ⟨n, t, tx, er, pl, c, c', M, I, O, A, L, OU, G, T, dp, hi, lo, fo, ik, ir⟩ := inv
  have fx := ik.2.2.2.2.2.fx
  have np := fx.1
  have hM := np.1.1.1
  have un : ∀ {z : Int32} {a b : Nat}, ith M (sv L ++ T) z a → ith M (sv L ++ T) z b → a = b := fun {z a b} h1 h2 => (nI_eq (by have := h1.2.1; omega) (by have := h2.2.1; omega)).mp (h1.1.symm.trans h2.1)
  by_cases q : (∃ m, ith M (sv L ++ T) x m) ∧ ∃ m, ith M (sv L ++ T) y m
  · obtain ⟨⟨m, hm⟩, m2, hm2⟩ := q
    refine Or.inl (e_alike ik hm hm2 ⟨0, rfl, ?_⟩)
    refine f_alike (IR_ou ir _) fx (fun m' m2' hm' hm2' h2' pr => ⟨pr.2.1, fun _ => ?_, INV.of (IK_ou ik _) pr.1 pr.2.2⟩) (fun hno => absurd hno ?_)
    · rw [un hm' hm, un hm2' hm2, out_kc pr.1, ou_at, lf_fw, lf_fw]
    · rintro (z | z)
      · exact z ⟨m, hm⟩
      · exact z ⟨m2, hm2⟩
  · have hno : (¬ ∃ m, ith M (sv L ++ T) x m) ∨ ¬ ∃ m, ith M (sv L ++ T) y m := by
      by_cases q1 : ∃ m, ith M (sv L ++ T) x m
      · exact Or.inr (fun z => q ⟨q1, z⟩)
      · exact Or.inl q1
    refine Or.inr ⟨e_alike_t ik hno, 1, rfl, f_alike ir fx (fun m m2 hm hm2 => ?_) (fun _ h2' pr => ⟨pr.2.1, fun z => absurd z (by decide), INV.of ik pr.1 pr.2.2⟩)⟩
    exact absurd ⟨⟨m, hm⟩, m2, hm2⟩ q
theorem a_look (inv : INV h) (w : Int32) : sx_X sx_w 72 0 [some (.ref 0), some (.int w)] [] h (sx_qi fun z h' => B1 121 [some (.ref 40), some (.int w)] (some (.int 0)) (ou h' z.toInt64)) ∨ (sx_X sx_r 72 0 [some (.ref 0), some (.int w)] [] h (sx_qt 0 h) ∧ B1 121 [some (.ref 40), some (.int w)] (some (.int 1)) h) := by
  obtain ⟨n, t, tx, er, pl, c, c', M, I, O, A, L, OU, G, T, dp, hi, lo, fo, ik, ir⟩ := inv
  have np := ik.2.2.2.2.2.1
  by_cases q : 0 ≤ w.toInt ∧ w.toInt ≤ 8
  · refine Or.inl (e_look ik q (fun h' kz' ik' => ⟨0, rfl, ?_⟩))
    refine f_look (fo := fo) (IR_ou (IR_kz ir kz') _) np q (fun h2' pr => ⟨pr.2.1, fun _ => ?_, INV.of (IK_ou ik' _) pr.1 pr.2.2⟩)
    rw [out_kc pr.1, ou_at]
  · exact Or.inr ⟨e_look_t ik q, 1, rfl, f_look_t ir q (fun h2' pr => ⟨pr.2.1, fun z => absurd z (by decide), INV.of ik pr.1 pr.2.2⟩)⟩
theorem a_feed (inv : INV h) (y : Int32) (v : Int64) : sx_X sx_w 61 0 [some (.ref 0), some (.int y), some (.long v), none, none] [] h (sx_qi fun z h' => B1 108 [some (.ref 40), some (.int y), some (.long v), none, none] (some (.int 0)) (ou h' z.toInt64)) ∨ (sx_X sx_r 61 0 [some (.ref 0), some (.int y), some (.long v), none, none] [] h (sx_qt 0 h) ∧ B1 108 [some (.ref 40), some (.int y), some (.long v), none, none] (some (.int 1)) h) ∨ (sx_X sx_r 61 0 [some (.ref 0), some (.int y), some (.long v), none, none] [] h (sx_qt 1 h) ∧ B1 108 [some (.ref 40), some (.int y), some (.long v), none, none] (some (.int 2)) h) := by
  obtain ⟨n, t, tx, er, pl, c, c', M, I, O, A, L, OU, G, T, dp, hi, lo, fo, ik, ir⟩ := inv
  by_cases q : 1 ≤ y.toInt ∧ y.toInt ≤ 8
  · obtain ⟨k, hk, ey⟩ := nI_of (x := y) (fun z => by have := ix_lt.mp z; omega)
    have hk2 : 1 ≤ k ∧ k ≤ 8 := by
      rw [ey, nI_toInt hk] at q
      omega
    by_cases hn : n + k ≤ 8192
    · refine Or.inl (e_feed ik ey hk2 hn (fun h' kz' ik' => ⟨0, rfl, ?_⟩))
      refine f_feed (IR_ou (IR_kz ir kz') _) ey hk2 hn (fun h2' pr => ⟨pr.2.1, fun _ => ?_, INV.of (IK_ou ik' _) pr.1 pr.2.2⟩)
      rw [out_kc pr.1, ou_at]
    · exact Or.inr (Or.inr ⟨e_feed_t1 ik ey hk2 hn, 2, rfl, f_feed_t1 ir ey hk2 hn (fun h2' pr => ⟨pr.2.1, fun z => absurd z (by decide), INV.of ik pr.1 pr.2.2⟩)⟩)
  · exact Or.inr (Or.inl ⟨e_feed_t0 q, 1, rfl, f_feed_t0 ir q (fun h2' pr => ⟨pr.2.1, fun z => absurd z (by decide), INV.of ik pr.1 pr.2.2⟩)⟩)
theorem a_out (inv : INV h) (y : Int32) : sx_X sx_w 71 0 [some (.ref 0), some (.int y), none, none, none, none, none] [] h (sx_ql fun z h' => B2 120 [some (.ref 40), some (.int y), none, none, none] (some (.int 0)) (ou h' z)) ∨ (sx_X sx_r 71 0 [some (.ref 0), some (.int y), none, none, none, none, none] [] h (sx_qt 2 h) ∧ B2 120 [some (.ref 40), some (.int y), none, none, none] (some (.int 1)) h) := by
  obtain ⟨n, t, tx, er, pl, c, c', M, I, O, A, L, OU, G, T, dp, hi, lo, fo, ik, ir⟩ := inv
  by_cases q : 0 ≤ y.toInt ∧ y.toInt < tx.length
  · obtain ⟨j, hj, ey⟩ := nI_of (x := y) (fun z => by have := ix_lt.mp z; omega)
    have hj2 : j < tx.length := by
      rw [ey, nI_toInt hj] at q
      omega
    refine Or.inl (e_out ik ey hj2 ⟨0, rfl, ?_⟩)
    refine f_out (IR_ou ir _) ey hj2 (fun h2' pr => ⟨pr.2.1, fun _ => ?_, INV.of (IK_ou ik _) pr.1 pr.2.2⟩)
    rw [out_kc pr.1, ou_at]
  · exact Or.inr ⟨e_out_t ik q, 1, rfl, f_out_t ir q (fun h2' pr => ⟨pr.2.1, fun z => absurd z (by decide), INV.of ik pr.1 pr.2.2⟩)⟩
theorem a_load (inv : INV h) : sx_X sx_w 62 0 [some (.ref 0), none, none] [] h (sx_qi fun a h1 => sx_X sx_w 94 0 [some (.ref 40), none, none] [] h1 (sx_qi fun b h2 => a = b ∧ INV h2)) := by
  obtain ⟨n, t, tx, er, pl, c, c', M, I, O, A, L, OU, G, T, dp, hi, lo, fo, ik, ir⟩ := inv
  refine e_loadK ik (fun e he h' kz' ik' => ?_) (fun r hr h' T' dp' hi' lo' fo' kz' ik' => ?_)
  · refine f_load (IR_kz ir kz') (fun e2 he2 h2 k2 _ ir2 => ?_) (fun r2 hr2 => ?_)
    · have ee := ldR_un he he2
      cases ee
      exact ⟨rfl, INV.of ik' k2 ir2⟩
    · have ee := ldR_un he hr2
      cases ee
  · refine f_load (IR_kz ir kz') (fun e2 he2 => ?_) (fun r2 hr2 h2 k2 _ ir2 => ?_)
    · have ee := ldR_un hr he2
      cases ee
    · have ee := ldR_un hr hr2
      cases ee
      exact ⟨rfl, INV.of ik' k2 ir2⟩
theorem a_folded (inv : INV h) : sx_X sx_w 68 0 [some (.ref 0)] [] h (sx_qi fun a h1 => sx_X sx_w 106 0 [some (.ref 40), none, none] [] h1 (sx_qi fun b h2 => a = b ∧ INV h2)) := by
  obtain ⟨n, t, tx, er, pl, c, c', M, I, O, A, L, OU, G, T, dp, hi, lo, fo, ik, ir⟩ := inv
  exact e_folded ik (fun h' kz' ik' => f_folded (IR_kz ir kz') ik.2.2.2.2.2.fx (fun h2 pr => ⟨rfl, INV.of ik' pr.1 pr.2.2⟩))
theorem a_write (inv : INV h) (bin : Bool) : sx_X sx_w 70 0 [some (.ref 0), some (.int (if bin then 1 else 0)), none] [] h (sx_qi fun a h1 => sx_X sx_w 118 0 [some (.ref 40), some (.int (if bin then 1 else 0)), none, none, none, none] [] h1 (sx_qi fun b h2 => a = b ∧ INV h2)) := by
  obtain ⟨n, t, tx, er, pl, c, c', M, I, O, A, L, OU, G, T, dp, hi, lo, fo, ik, ir⟩ := inv
  exact e_write ik (fun h' kz' ik' => f_write (fo := fo) (IR_kz ir kz') ik.2.2.2.2.2.1 (fun h2 pr => ⟨rfl, INV.of ik' pr.1 pr.2.2⟩))
theorem f_thrown {sh : sx_S} {f : Int32 → sx_H → Prop} (hs : sh.1 = sx_shp) (H : f (h.1 40 0) h) : sx_X sh 77 0 [some (.ref 40)] [] h (sx_qi f) := g_77_0 h 40 ⟨by rw [hs]; rfl, H⟩
