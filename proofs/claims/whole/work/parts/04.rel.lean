-- HOW THE SMALL MACHINE LIES IN THE JVM
/-- the tables' words that any method may carry on -/
def sx_tb : List Cond := lw_tbl.filter goodWord
def sx_lo (r : Nat → Nat) (n : Nat) (ls : Array Slot) (l : sx_L) : Prop := ls.size = n ∧ l.length = n ∧ lv_wf ls ∧ ∀ (i : Nat) (v : Value), l[i]? = some (some v) → ls[i]? = some (.val (sx_v r v))
def sx_al1 (r : Nat → Nat) (l : sx_L) (i : Nat) : Option (Nat × Value) := match l[i]? with
  | some (some v) => some (i, sx_v r v)
  | _ => none
def sx_al (r : Nat → Nat) (l : sx_L) : List (Nat × Value) := (List.range l.length).filterMap (sx_al1 r l)
theorem sx_al_in {r : Nat → Nat} {l : sx_L} {i : Nat} {v : Value} (h : l[i]? = some (some v)) : (i, sx_v r v) ∈ sx_al r l := by
  refine List.mem_filterMap.mpr ⟨i, List.mem_range.mpr (List.getElem?_eq_some_iff.mp h).1, ?_⟩
  unfold sx_al1; rw [h]
theorem sx_al_of {r : Nat → Nat} {l : sx_L} {q : Nat × Value} (h : q ∈ sx_al r l) : ∃ v, l[q.1]? = some (some v) ∧ q.2 = sx_v r v := by
  obtain ⟨i, -, hi⟩ := List.mem_filterMap.mp h
  unfold sx_al1 at hi
  split at hi
  · cases hi; exact ⟨_, by assumption, rfl⟩
  · cases hi
theorem sx_lo_has {r : Nat → Nat} {n : Nat} {ls : Array Slot} {l : sx_L} (h : sx_lo r n ls l) : lv_has ls n (sx_al r l) := by
  refine ⟨h.1, h.2.2.1, fun q hq => ?_⟩
  obtain ⟨v, h1, h2⟩ := sx_al_of hq
  rw [h2]
  exact h.2.2.2 _ _ h1
theorem sx_v_cat (r : Nat → Nat) (v : Value) : (sx_v r v).category = v.category := by cases v <;> rfl
theorem sx_kill_len (l : sx_L) (i : Nat) : (sx_kill l i).length = l.length := by
  cases i with
  | zero => rfl
  | succ i => simp only [sx_kill]; split <;> simp
theorem sx_kill_get {l : sx_L} {i j : Nat} {w : Value} (h : (sx_kill l i)[j]? = some (some w)) : l[j]? = some (some w) ∧ (j + 1 = i → ¬ w.category = 2) := by
  cases i with
  | zero => exact ⟨h, fun z => by omega⟩
  | succ i =>
    simp only [sx_kill] at h
    have key : ∀ {x : Value}, l[i]? = some (some x) → (l.set i none)[j]? = some (some w) → l[j]? = some (some w) ∧ (j + 1 = i + 1 → ¬ w.category = 2) := by
      intro x _ hh
      by_cases e : i = j
      · subst e
        rw [List.getElem?_set] at hh
        simp at hh
      · rw [List.getElem?_set_ne e] at hh
        exact ⟨hh, fun z => absurd (Nat.succ.inj z).symm e⟩
    split at h
    · exact key (by assumption) h
    · exact key (by assumption) h
    · rename_i n1 n2
      refine ⟨h, fun z hc => ?_⟩
      have e : j = i := Nat.succ.inj z
      subst e
      cases w with
      | long x => exact n1 x h
      | double x => exact n2 x h
      | _ => simp [Value.category] at hc
theorem sx_lo_s1 {r : Nat → Nat} {n i : Nat} {ls ls' : Array Slot} {l : sx_L} {v : Value} (h : sx_lo r n ls l) (hi : i < n)
    (h' : lv_has ls' n ((i, sx_v r v) :: (sx_al r l).filter (fun q => !(q.1 == i) && !(q.1 + 1 == i && q.2.category == 2)))) : sx_lo r n ls' (sx_s1 l i v) := by
  refine ⟨h'.1, by unfold sx_s1; rw [List.length_set, sx_kill_len]; exact h.2.1, h'.2.1, fun j w hj => ?_⟩
  unfold sx_s1 at hj
  by_cases e : i = j
  · subst e
    rw [List.getElem?_set_self (by rw [sx_kill_len, h.2.1]; exact hi)] at hj
    cases hj
    exact h'.2.2 (i, sx_v r v) List.mem_cons_self
  · rw [List.getElem?_set_ne e] at hj
    obtain ⟨h1, h2⟩ := sx_kill_get hj
    refine h'.2.2 (j, sx_v r w) (List.mem_cons_of_mem _ (List.mem_filter.mpr ⟨sx_al_in h1, ?_⟩))
    have e2 : ¬ j = i := fun z => e z.symm
    by_cases e3 : j + 1 = i
    · have := h2 e3
      simp [e2, sx_v_cat, this]
    · simp [e2, e3]
theorem sx_lo_s2 {r : Nat → Nat} {n i : Nat} {ls ls' : Array Slot} {l : sx_L} {v : Value} (h : sx_lo r n ls l) (hi : i + 1 < n)
    (h' : lv_has ls' n ((i, sx_v r v) :: (sx_al r l).filter (fun q => !(q.1 == i) && (!(q.1 == i + 1) && !(q.1 + 1 == i && q.2.category == 2))))) : sx_lo r n ls' (sx_s2 l i v) := by
  refine ⟨h'.1, by unfold sx_s2; rw [List.length_set, List.length_set, sx_kill_len]; exact h.2.1, h'.2.1, fun j w hj => ?_⟩
  unfold sx_s2 at hj
  by_cases e0 : i + 1 = j
  · subst e0
    rw [List.getElem?_set_self (by rw [List.length_set, sx_kill_len, h.2.1]; exact hi)] at hj
    cases hj
  rw [List.getElem?_set_ne e0] at hj
  by_cases e : i = j
  · subst e
    rw [List.getElem?_set_self (by rw [sx_kill_len, h.2.1]; omega)] at hj
    cases hj
    exact h'.2.2 (i, sx_v r v) List.mem_cons_self
  · rw [List.getElem?_set_ne e] at hj
    obtain ⟨h1, h2⟩ := sx_kill_get hj
    refine h'.2.2 (j, sx_v r w) (List.mem_cons_of_mem _ (List.mem_filter.mpr ⟨sx_al_in h1, ?_⟩))
    have e2 : ¬ j = i := fun z => e z.symm
    have e4 : ¬ j = i + 1 := fun z => e0 z.symm
    by_cases e3 : j + 1 = i
    · have := h2 e3
      simp [e2, e4, sx_v_cat, this]
    · simp [e2, e3, e4]
theorem sx_a1_len (v : Value) : (sx_a1 v).length = v.category := by cases v <;> rfl
theorem sx_fm_len : ∀ vs : List Value, (vs.flatMap sx_a1).length = sx_cat vs
  | [] => rfl
  | v :: vs => by rw [List.flatMap_cons, List.length_append, sx_fm_len vs, sx_a1_len]; rfl
theorem sx_sl_len (r : Nat → Nat) : ∀ vs : List Value, (lg_sl (vs.map (sx_v r))).length = sx_cat vs
  | [] => rfl
  | v :: vs => by
    have h := sx_sl_len r vs
    unfold lg_sl at h ⊢
    rw [List.map_cons, List.flatMap_cons, List.length_append, h]
    cases v <;> rfl
theorem sx_args_in (r : Nat → Nat) (m : Nat) : ∀ (vs : List Value) (k i : Nat) (v : Value), (vs.flatMap sx_a1 ++ List.replicate m none)[i]? = some (some v) → (k + i, sx_v r v) ∈ lv_args k (vs.map (sx_v r))
  | [], k, i, v, h => by
    simp only [List.flatMap_nil, List.nil_append, List.getElem?_replicate] at h
    split at h <;> cases h
  | w :: vs, k, i, v, h => by
    have one : sx_a1 w = [some w] → (if (sx_v r w).category = 2 then k + 2 else k + 1) = k + 1 → (k + i, sx_v r v) ∈ lv_args k ((w :: vs).map (sx_v r)) := by
      intro ha hk
      rw [List.flatMap_cons, ha] at h
      show _ ∈ (k, sx_v r w) :: lv_args (if (sx_v r w).category = 2 then k + 2 else k + 1) (vs.map (sx_v r))
      rw [hk]
      cases i with
      | zero => cases h; exact List.mem_cons_self
      | succ i =>
        have h2 : (vs.flatMap sx_a1 ++ List.replicate m none)[i]? = some (some v) := h
        have := sx_args_in r m vs (k + 1) i v h2
        rw [show k + 1 + i = k + (i + 1) by omega] at this
        exact List.mem_cons_of_mem _ this
    have two : sx_a1 w = [some w, none] → (if (sx_v r w).category = 2 then k + 2 else k + 1) = k + 2 → (k + i, sx_v r v) ∈ lv_args k ((w :: vs).map (sx_v r)) := by
      intro ha hk
      rw [List.flatMap_cons, ha] at h
      show _ ∈ (k, sx_v r w) :: lv_args (if (sx_v r w).category = 2 then k + 2 else k + 1) (vs.map (sx_v r))
      rw [hk]
      match i, h with
      | 0, h => cases h; exact List.mem_cons_self
      | 1, h => cases h
      | i + 2, h =>
        have h2 : (vs.flatMap sx_a1 ++ List.replicate m none)[i]? = some (some v) := h
        have := sx_args_in r m vs (k + 2) i v h2
        rw [show k + 2 + i = k + (i + 2) by omega] at this
        exact List.mem_cons_of_mem _ this
    cases w with
    | long x => exact two rfl rfl
    | double x => exact two rfl rfl
    | int x => exact one rfl rfl
    | float x => exact one rfl rfl
    | null => exact one rfl rfl
    | ref x => exact one rfl rfl
    | retAddr x => exact one rfl rfl
theorem sx_lo_entry (r : Nat → Nat) {n : Nat} {vs : List Value} (h : sx_cat vs ≤ n) :
    sx_lo r n ((lg_sl (vs.map (sx_v r)) ++ List.replicate (n - (lg_sl (vs.map (sx_v r))).length) Slot.unset).toArray) (sx_entry n vs) := by
  have h1 := lv_entry (vs.map (sx_v r)) (n := n) (by rw [sx_sl_len]; exact h)
  refine ⟨h1.1, ?_, h1.2.1, fun i v hi => ?_⟩
  · unfold sx_entry sx_fill
    rw [List.length_append, List.length_replicate, sx_fm_len]
    omega
  · have := sx_args_in r _ vs 0 i v hi
    rw [Nat.zero_add] at this
    exact h1.2.2 _ this
-- the heap
def sx_at (D : va_G) (cI cJ cZ : ClassId) (r : Nat → Nat) (sh : sx_S) (h : sx_H) (H : Heap) (a : Nat) : Prop := match (sh.1 a).1 with
  | 0 => True
  | 1 => H[r a]? = some (arrV cI (sh.1 a).2 (fun k => .int (h.1 a k)))
  | 2 => H[r a]? = some (arrV cJ (sh.1 a).2 (fun k => .long (h.2.1 a k)))
  | 3 => H[r a]? = some (arrV cZ (sh.1 a).2 (fun k => .int (h.1 a k)))
  | ci + 4 => ∃ q : vw_C, vwCl[ci]? = some q ∧ t_OB (r a) (D.1 ci) q.2.2 (D.2 ci) H (fun k => sx_v r (sx_fv h a ci k))
def sx_P (D : va_G) (cI cJ cZ : ClassId) (r : Nat → Nat) (sh : sx_S) (h : sx_H) (H : Heap) : Prop := ∀ a : Nat, sx_at D cI cJ cZ r sh h H a
theorem sx_at.kept {D : va_G} {cI cJ cZ : ClassId} {r : Nat → Nat} {sh : sx_S} {h : sx_H} {H H1 : Heap} {a : Nat} (x : sx_at D cI cJ cZ r sh h H a) (e : H1[r a]? = H[r a]?) : sx_at D cI cJ cZ r sh h H1 a := by
  unfold sx_at at x ⊢
  split
  · trivial
  · rename_i z; rw [z] at x; rw [e]; exact x
  · rename_i z; rw [z] at x; rw [e]; exact x
  · rename_i z; rw [z] at x; rw [e]; exact x
  · rename_i z
    rw [z] at x
    obtain ⟨q, h1, h2⟩ := x
    exact ⟨q, h1, h2.kept e⟩
theorem sx_at.lt {D : va_G} {cI cJ cZ : ClassId} {r : Nat → Nat} {sh : sx_S} {h : sx_H} {H : Heap} {a : Nat} (x : sx_at D cI cJ cZ r sh h H a) (hn : (sh.1 a).1 ≠ 0) : r a < H.size := by
  unfold sx_at at x
  split at x
  · exact absurd (by assumption) hn
  · exact (Array.getElem?_eq_some_iff.mp x).1
  · exact (Array.getElem?_eq_some_iff.mp x).1
  · exact (Array.getElem?_eq_some_iff.mp x).1
  · obtain ⟨q, h1, cell, h2, -⟩ := x
    exact (Array.getElem?_eq_some_iff.mp h2).1
/-- the names lie apart, in cells that were there when the method began -/
def sx_inj (r : Nat → Nat) (sh : sx_S) (sz : Nat) : Prop := (∀ a b, (sh.1 a).1 ≠ 0 → (sh.1 b).1 ≠ 0 → r a = r b → a = b) ∧ ∀ a, (sh.1 a).1 ≠ 0 → r a < sz
/-- which cells may change: the world's, where the method writes at all, and new ones -/
def sx_A (r : Nat → Nat) (sh : sx_S) (sz : Nat) : Nat → Prop := fun q => (sh.2 = true ∧ ∃ a, (sh.1 a).1 ≠ 0 ∧ r a = q) ∨ sz ≤ q
def sx_K (D : va_G) (cI cJ cZ : ClassId) (U : State) : Prop := va_K D vwCl [(cI, .int), (cJ, .long), (cZ, .boolean)] U ∧ ∀ w ∈ sx_nest, va_Nw w U
theorem sx_cond_e {b : Bool} {X : Prop} (h : cond b X False) : b = true ∧ X := by
  cases b with
  | true => exact ⟨rfl, h⟩
  | false => exact False.elim h
theorem sx_cond_i {b : Bool} {X : Prop} (h : b = true) (x : X) : cond b X False := by subst h; exact x
def sx_rm (j : Nat) : Room := { frames := sx_fr j, cells := sx_rc j, slots := 6 * sx_rc j, locals := sx_lc j }
def sx_ws (j : Nat) : List Cond := .code (sx_y j) (sx_b j) (sx_ml j) (sx_rt j) :: sx_tb
/-- what a method that throws must know besides: the words of the exceptions' making, the texts -/
def sx_up : List String := ["java/lang/RuntimeException", "java/lang/Exception"]
def sx_xi (k : Nat) : Nat := [51, 68, 129].getD k 0
def sx_strs : List (Nat × String) := [(49, "n is not 1 .. 8"), (66, "the tape would have more than 8192 bytes"), (96, "the literal's variable stands for nothing"), (102, "x is not 0 .. 2^I - 1"), (127, "there is no such literal"), (145, "a literal's variable stands for nothing"), (161, "OUT has no such byte"), (183, "what is not 0 .. 8")]
def sx_ix (k : Nat) : Nat := [7, 7, 13].getD k 7
def sx_rx (k : Nat) : ByteArray := [Bundle.six, Bundle.six, ⟨#[0x2a, 0x2b, 0xb7, 0x00, 0x0d, 0xb1]⟩].getD k Bundle.six
/-- what a throw of the k-th exception asks of the tables -/
def sx_oa (k : Nat) : List Cond := Bundle.throwableAtoms ++ Bundle.throwableSAtoms ++ Bundle.passSAtoms (sx_exc k) "java/lang/RuntimeException" (sx_ix k) (sx_rx k) ++ Bundle.chainSAtoms "java/lang/RuntimeException" ["java/lang/Exception"] ++
  [.methodLink "GateText" (sx_xi k) (Bundle.initS (sx_exc k)), .instantiable (sx_exc k) 6, .castable (sx_exc k) (sx_exc k), .selects (sx_exc k) Bundle.tFill0 Bundle.tFill0, .selects (sx_exc k) Bundle.tFill Bundle.tFill,
   .isRef (.static Bundle.tN "UNASSIGNED_STACK" Bundle.steD), .isRef (.static Bundle.tN "SUPPRESSED_SENTINEL" Bundle.listD),
   .lays (sx_exc k) Bundle.tN "cause" "Ljava/lang/Throwable;", .lays (sx_exc k) Bundle.tN "stackTrace" Bundle.steD, .lays (sx_exc k) Bundle.tN "suppressedExceptions" Bundle.listD, .lays (sx_exc k) Bundle.tN "detailMessage" "Ljava/lang/String;",
   .lays (sx_exc k) Bundle.tN "backtrace" "Ljava/lang/Object;", .fieldLink Bundle.tN 198 Bundle.tN "backtrace" "Ljava/lang/Object;", .lays Bundle.tN Bundle.tN "backtrace" "Ljava/lang/Object;"]
def sx_tfx (args : Array Value) (s : State) : Prop := (∀ k, k < 3 → ∀ w ∈ sx_oa k, w.before args s = true) ∧ ∀ q ∈ sx_strs, ∃ a, vk_R "GateText" q.1 q.2 a s
def sx_ctx (j : Nat) (p : Program) (s : State) (m : MethodId) (args : Array Value) (meth : Method) (c : Code) : Prop :=
  p.tables.exec = Jvm.exec ∧ c.code = sx_b j ∧ meth.sig.returnType = sx_rt j ∧ c.maxLocals = sx_ml j ∧ s.vm.findClass (sx_own j) = some m.cls ∧ (∀ w ∈ sx_tb, w.before args s = true) ∧ meth.locks = false ∧ (sx_rc j = 1 → sx_tfx args s ∧ c.exceptionTable.isEmpty = true)
/-- a method's answer is no address of a jump -/
def sx_nr (v : Option Value) : Prop := ∀ k, v ≠ some (.retAddr k)
def sx_Qc (D : va_G) (cI cJ cZ : ClassId) (r : Nat → Nat) (sh : sx_S) (Q : sx_Q) : Array Value → State → Outcome → State → Prop := fun _ st oc t =>
  (∃ (v : Option Value) (h' : sx_H), Q v h' ∧ oc = .returned (v.map (sx_v r)) ∧ (sx_P D cI cJ cZ r sh h' t.heap ∧ sx_nr v)) ∧ va_F (sx_A r sh st.heap.size) st t
/-- the end by a throw: the exception numbered k, everything old as it was -/
def sx_Thr (D : va_G) (cI cJ cZ : ClassId) (r : Nat → Nat) (sh : sx_S) (Q : sx_Q) (below : List Frame) (s t : State) : Prop :=
  ∃ (k : Nat) (h' : sx_H) (a : Nat), Q (some (.retAddr k)) h' ∧ t.status = .running ∧ Ended t below (.threw a) ∧ s.WarmedH t.vm ∧ s.sameButNew ({ t with vm := s.vm } : State) [] 1 6 ∧ sx_P D cI cJ cZ r sh h' t.heap ∧
    ∃ ce : Cell, t.heap[a]? = some ce ∧ s.vm.findClass (sx_exc k) = some ce.cls ∧ ce.vm = .none
def sx_Z (j : Nat) (D : va_G) (cI cJ cZ : ClassId) (r : Nat → Nat) (sh : sx_S) (Q : sx_Q) (below : List Frame) (args : Array Value) (s : State) : State → Prop := fun t =>
  MQ below (sx_Qc D cI cJ cZ r sh Q) args s (sx_rc j) (6 * sx_rc j) (sx_A r sh s.heap.size) t ∨ sx_Thr D cI cJ cZ r sh Q below s t
def sx_sem (l : Launch) (sh : sx_S) : sx_T := fun j pc lv st h Q =>
  ∀ (D : va_G) (cI cJ cZ : ClassId) (r : Nat → Nat) (p : Program) (e : Env) (s : State) (m : MethodId) (args : Array Value) (below : List Frame) (meth : Method) (c : Code) (H : Heap) (locs : List Loc) (ls : Array Slot),
    sx_ctx j p s m args meth c → sx_inj r sh s.heap.size → sx_K D cI cJ cZ s → sx_P D cI cJ cZ r sh h H → sx_lo r (sx_ml j) ls lv → va_S (sx_A r sh s.heap.size) s.heap H locs →
    W p l e (sx_rm j) s m args below meth c H locs 0 0 (sx_Z j D cI cJ cZ r sh Q below args s) (F0 m pc ls (st.map (sx_v r)))
theorem sx_W_m {p : Program} {l : Launch} {e : Env} {R : Room} {s : State} {m : MethodId} {args : Array Value} {below : List Frame} {meth : Method} {c : Code} {H : Heap} {locs : List Loc} {cells slots : Nat} {Q Q' : State → Prop} {g : JFrame} (h : ∀ t, Q t → Q' t)
    (k : W p l e R s m args below meth c H locs cells slots Q g) : W p l e R s m args below meth c H locs cells slots Q' g := fun T hT X => by
  obtain ⟨t, a, b⟩ := k T hT X
  exact ⟨t, a, h t b⟩
theorem sx_Z_m {j : Nat} {D : va_G} {cI cJ cZ : ClassId} {r : Nat → Nat} {sh : sx_S} {Q Q' : sx_Q} {below : List Frame} {args : Array Value} {s : State} (m : ∀ w h, Q w h → Q' w h) (t : State) (H : sx_Z j D cI cJ cZ r sh Q below args s t) : sx_Z j D cI cJ cZ r sh Q' below args s t := by
  rcases H with ⟨o, h1, h2, ⟨⟨v, h', a1, a2, a3⟩, h4⟩, h5⟩ | ⟨k, h', a, h1, h2⟩
  · exact Or.inl ⟨o, h1, h2, ⟨⟨v, h', m _ _ a1, a2, a3⟩, h4⟩, h5⟩
  · exact Or.inr ⟨k, h', a, m _ _ h1, h2⟩
theorem sx_sem_mono (l : Launch) (sh : sx_S) : sx_mono (sx_sem l sh) := fun j pc lv st h Q Q' hm H D cI cJ cZ r p e s m args below meth c Hp locs ls h1 h2 h3 h4 h5 h6 =>
  sx_W_m (sx_Z_m hm) (H D cI cJ cZ r p e s m args below meth c Hp locs ls h1 h2 h3 h4 h5 h6)
/-- a write into a cell of the world -/
theorem sx_S_put {r : Nat → Nat} {sh : sx_S} {sz a : Nat} {H0 H H1 : Heap} {locs : List Loc} {k : Nat} (hw : sh.2 = true) (hn : (sh.1 a).1 ≠ 0) (hS : va_S (sx_A r sh sz) H0 H locs) (z : H1.size = H.size) (oq : ∀ q : Nat, q ≠ r a → H1[q]? = H[q]?) : va_S (sx_A r sh sz) H0 H1 (locs ++ [⟨r a, k⟩]) :=
  hS.put z oq (Or.inl ⟨hw, a, hn, rfl⟩)
/-- the world behind a write into the cell a: what is said of a anew, and nothing else has changed -/
theorem sx_P_put {D : va_G} {cI cJ cZ : ClassId} {r : Nat → Nat} {sh : sx_S} {h h' : sx_H} {H H1 : Heap} {a sz : Nat} (hP : sx_P D cI cJ cZ r sh h H) (hI : sx_inj r sh sz) (hn : (sh.1 a).1 ≠ 0) (oq : ∀ q : Nat, q ≠ r a → H1[q]? = H[q]?)
    (hs : ∀ b, b ≠ a → sx_at D cI cJ cZ r sh h H b → sx_at D cI cJ cZ r sh h' H b) (ha : sx_at D cI cJ cZ r sh h' H1 a) : sx_P D cI cJ cZ r sh h' H1 := by
  intro b
  by_cases e : b = a
  · subst e; exact ha
  · by_cases hz : (sh.1 b).1 = 0
    · unfold sx_at; rw [hz]; trivial
    · exact (hs b e (hP b)).kept (oq _ (fun q => e (hI.1 b a hz hn q)))
theorem sx_at_ext {D : va_G} {cI cJ cZ : ClassId} {r : Nat → Nat} {sh : sx_S} {h h' : sx_H} {H : Heap} {b : Nat} (e1 : h'.1 b = h.1 b) (e2 : h'.2.1 b = h.2.1 b) (e3 : h'.2.2 b = h.2.2 b) (x : sx_at D cI cJ cZ r sh h H b) : sx_at D cI cJ cZ r sh h' H b := by
  unfold sx_at at x ⊢
  have e4 : ∀ ci k, sx_fv h' b ci k = sx_fv h b ci k := fun ci k => by unfold sx_fv; rw [e1, e2, e3]
  simp only [e1, e2, e4]
  exact x
theorem sx_u_ne {α : Type} {f : Nat → Nat → α} {a k b : Nat} {v : α} (h : b ≠ a) : sx_u f a k v b = f b := va_up_ne _ _ h
theorem sx_u_eq {α : Type} {f : Nat → Nat → α} {a k : Nat} {v : α} : sx_u f a k v a = va_up (f a) k v := va_up_self _ _ _
