-- A CALL THAT MAY THROW, INSIDE A TRY: the search for a handler, the call, both ways on
section CX
/-- the search through rows ends at pc', whatever is asked afterwards; the tables it leaves are vm' -/
def cx_R (e : Env) (S : State) (f : JFrame) (a : Addr) (rows : List ExceptionTableEntry) (pc' : Nat) (vm' : Vm) : Prop :=
  ∀ (Q : Handler → Pre) (E : CtlPost) (d : Bool) (acts : List Action), wp (findHandler.go f a rows) Q E e d acts S ↔ Q (.found pc') d acts (S.setVm vm')
/-- one row whose class links: the object is of it, or the search goes on behind -/
theorem cx_row {e : Env} {S : State} {f : JFrame} {a : Addr} {x : ExceptionTableEntry} {t : List ExceptionTableEntry} {cc : ClassId} {cell : Cell} (hx : covers x f.pc = true) (h0 : x.catchType ≠ 0) (hl : S.vm.ClassLinks e.platform f.method.cls x.catchType cc)
    (hcell : S.heap[a]? = some cell) (hvm : cell.vm = .none) {k1 k2 : Class} (hk1 : S.vm.classes[cell.cls]? = some k1) (hk2 : S.vm.classes[cc]? = some k2) (Q : Handler → Pre) (E : CtlPost) (d : Bool) (acts : List Action) :
    (S.vm.assignable cell.cls cc = true → (wp (findHandler.go f a (x :: t)) Q E e d acts S ↔ Q (.found x.handlerPc) d acts (S.setVm (S.vm.noted f.method.cls x.catchType (.cls cc))))) ∧
    (S.vm.assignable cell.cls cc = false → (wp (findHandler.go f a (x :: t)) Q E e d acts S ↔ wp (findHandler.go f a t) Q E e d acts (S.setVm (S.vm.noted f.method.cls x.catchType (.cls cc))))) := by
  obtain ⟨g1, g2⟩ := (resolveClass_links e.toSetting hl).op (op := VmOp.resolveClass f.method.cls x.catchType) rfl
  have same : S.vm.Alike (S.vm.noted f.method.cls x.catchType (.cls cc)) := (Vm.Alike.refl S.vm).noted _ _ _
  obtain ⟨q1, hq1, -⟩ := same.2.2 _ _ hk1
  obtain ⟨q2, hq2, -⟩ := same.2.2 _ _ hk2
  have hns : ∀ k, cell.vm ≠ .statics k := fun k z => by rw [hvm] at z; cases z
  have hx' : (decide (x.startPc ≤ f.pc) && decide (f.pc < x.endPc)) = true := hx
  constructor
  · intro hfit
    have hfit : (S.vm.noted f.method.cls x.catchType (.cls cc)).assignable cell.cls cc = true := by rw [same.assignable]; exact hfit
    simp [findHandler.go, hx', h0, g1, g2, hcell, hns, hq1, hq2, hfit, VmOp.dirties, VmOp.acts]
  · intro hfit
    have hfit : (S.vm.noted f.method.cls x.catchType (.cls cc)).assignable cell.cls cc = false := by rw [same.assignable]; exact hfit
    simp [findHandler.go, hx', h0, g1, g2, hcell, hns, hq1, hq2, hfit, VmOp.dirties, VmOp.acts]
/-- what a row's words give: its class, and that the search may note it -/
theorem cx_words {e : Env} {s : State} {args : Array Value} {own nm : String} {d i : Nat} (hpl : e.platform.magicAccessors = ({} : Platform).magicAccessors) (hown : s.vm.findClass own = some d) (hlink : (Cond.classLink own i nm).before args s = true) :
    ∃ cc, s.vm.findClass nm = some cc ∧ s.vm.ClassLinks e.platform d i cc ∧ (∃ k, s.vm.classes[cc]? = some k) ∧ ∀ vm1, s.WarmedH vm1 → s.WarmedH (vm1.noted d i (.cls cc)) := by
  obtain ⟨cc, h1, hl⟩ := Cond.classLink_spec hown hlink e.platform hpl
  obtain ⟨dk, _, _, kt, hd, _, _, _, _, hkt, _, hopen⟩ := hl.here
  exact ⟨cc, h1, hl, ⟨kt, hkt⟩, fun vm1 hW => hW.noted hd hopen (State.rightAt_cls hl)⟩
theorem cx_hit {e : Env} {s S : State} {f : JFrame} {a : Addr} {x : ExceptionTableEntry} {t : List ExceptionTableEntry} {cell : Cell} {args : Array Value} {own nm : String} (hpl : e.platform.magicAccessors = ({} : Platform).magicAccessors) (hown : s.vm.findClass own = some f.method.cls)
    (hlink : (Cond.classLink own x.catchType nm).before args s = true) (hx : covers x f.pc = true) (h0 : x.catchType ≠ 0) (hW : s.WarmedH S.vm) (hcell : S.heap[a]? = some cell) (hvm : cell.vm = .none) (hk : ∃ k, s.vm.classes[cell.cls]? = some k)
    (hfit : ∀ cc, s.vm.findClass nm = some cc → s.vm.assignable cell.cls cc = true) : ∃ vm', s.WarmedH vm' ∧ cx_R e S f a (x :: t) x.handlerPc vm' := by
  obtain ⟨cc, hf, hl, ⟨k2, hk2⟩, hw⟩ := cx_words (e := e) hpl hown hlink
  obtain ⟨k1, hk1⟩ := hk
  obtain ⟨q1, hq1, -⟩ := hW.alike.2.2 _ _ hk1
  obtain ⟨q2, hq2, -⟩ := hW.alike.2.2 _ _ hk2
  exact ⟨_, hw _ hW, fun Q E d acts => (cx_row hx h0 (hW.classLinks hl) hcell hvm hq1 hq2 Q E d acts).1 (by rw [hW.alike.assignable]; exact hfit cc hf)⟩
theorem cx_pass {e : Env} {s S : State} {f : JFrame} {a : Addr} {x : ExceptionTableEntry} {t : List ExceptionTableEntry} {cell : Cell} {args : Array Value} {own nm : String} {pc' : Nat} (hpl : e.platform.magicAccessors = ({} : Platform).magicAccessors) (hown : s.vm.findClass own = some f.method.cls)
    (hlink : (Cond.classLink own x.catchType nm).before args s = true) (hx : covers x f.pc = true) (h0 : x.catchType ≠ 0) (hW : s.WarmedH S.vm) (hcell : S.heap[a]? = some cell) (hvm : cell.vm = .none) (hk : ∃ k, s.vm.classes[cell.cls]? = some k)
    (hno : ∀ cc, s.vm.findClass nm = some cc → s.vm.assignable cell.cls cc = false) (hrest : ∀ S' : State, s.WarmedH S'.vm → S'.heap = S.heap → ∃ vm', s.WarmedH vm' ∧ cx_R e S' f a t pc' vm') : ∃ vm', s.WarmedH vm' ∧ cx_R e S f a (x :: t) pc' vm' := by
  obtain ⟨cc, hf, hl, ⟨k2, hk2⟩, hw⟩ := cx_words (e := e) hpl hown hlink
  obtain ⟨k1, hk1⟩ := hk
  obtain ⟨q1, hq1, -⟩ := hW.alike.2.2 _ _ hk1
  obtain ⟨q2, hq2, -⟩ := hW.alike.2.2 _ _ hk2
  obtain ⟨vm', hv1, hv2⟩ := hrest (S.setVm (S.vm.noted f.method.cls x.catchType (.cls cc))) (hw _ hW) rfl
  refine ⟨vm', hv1, fun Q E d acts => ?_⟩
  rw [(cx_row hx h0 (hW.classLinks hl) hcell hvm hq1 hq2 Q E d acts).2 (by rw [hW.alike.assignable]; exact hno cc hf)]
  exact hv2 Q E d acts
variable {p : Program} {l : Launch} {e : Env} {R : Room} {s : State} {m : MethodId} {args : Array Value} {below : List Frame} {meth : Method} {c : Code} {T : State} {locs : List Loc} {cells slots : Nat}
/-- caught: the frame goes on at the handler, the exception alone on its stack -/
theorem cx_caught (X : Stand p l e R s m args below meth c T locs cells slots) {g : JFrame} (hg : g.method = m) {a : Addr} {pc' : Nat} (hf : ∀ S : State, s.WarmedH S.vm → S.heap = T.heap → ∃ vm', s.WarmedH vm' ∧ cx_R e S g a c.exceptionTable.toList pc' vm') :
    ∃ vm', Stand p l e R s m args below meth c (T.setVm vm') locs cells slots ∧ ∀ target, Steps p.tables e below ((T.setVm vm').setTop { g with pc := pc', stack := [.ref a] }) target → Steps p.tables e below ((T.setTop g).pushFrame (.throwing a)) target := by
  subst hg
  obtain ⟨vm', hv1, hv2⟩ := hf ((T.setTop g).pushFrame (.throwing a)) X.warmed rfl
  refine ⟨vm', X.noted hv1, fun target hrest => ?_⟩
  have hfind : ∀ (Q : Handler → Pre) (E : CtlPost) (d : Bool) (acts : List Action), wp (findHandler g a) Q E e d acts ((T.setTop g).pushFrame (.throwing a)) ↔ Q (.found pc') d acts (((T.setTop g).pushFrame (.throwing a)).setVm vm') := fun Q E d acts => by
    rw [W.findHandler_eq (s := (T.setTop g).pushFrame (.throwing a)) (meth := meth) (code := c) X.method' X.code]
    exact hv2 Q E d acts
  obtain ⟨hgo, hw⟩ := X.here.throwing a
  refine Steps.head hgo hw ?_
  obtain ⟨g₀, hg0⟩ := Option.isSome_iff_exists.mp X.here.top
  obtain ⟨r, hr⟩ := State.topJava?_eq_some.mp hg0
  have hthrow : (stepThrowing e ((T.setTop g).pushFrame (.throwing a)) a (.java g :: r)).Is ((((T.setTop g).pushFrame (.throwing a)).setVm vm').setFrames (.java { g with pc := pc', stack := [.ref a] } :: r)) [] := by
    simp only [stepThrowing, searchFrame, vmDo]
    generalize hres : Sem.go _ e false [] ((T.setTop g).pushFrame (.throwing a)) = res
    obtain ⟨as, rfl, ha⟩ := Sem.eq_ok_of hres (a := Handler.found pc') (s' := ((T.setTop g).pushFrame (.throwing a)).setVm vm') (acts' := []) (by simp [hfind _ _ _ _])
    exact ⟨rfl, ha⟩
  have hfr := frames_entered (g := g) X.here.top (.throwing a)
  rw [hr, List.tail_cons] at hfr
  rw [stepThread_throwing hfr, hthrow.1]
  have hr' : (T.setVm vm').frames = .java g₀ :: r := hr
  rw [State.setTop_of_frames _ hr'] at hrest
  have e1 : (((T.setTop g).pushFrame (.throwing a)).setVm vm').setFrames (.java { g with pc := pc', stack := [.ref a] } :: r) = (T.setVm vm').setFrames (.java { g with pc := pc', stack := [.ref a] } :: r) := by
    rw [State.pushFrame, State.setTop_of_frames _ hr, State.setFrames_setFrames]
    show ((T.setVm vm').setFrames _).setFrames _ = _
    rw [State.setFrames_setFrames]
  rw [e1]
  exact hrest
/-- the state behind a callee, in the caller's words: its heap and tables, over the caller's frames -/
theorem cx_after (X : Stand p l e R s m args below meth c T locs cells slots) {g : JFrame} {mk : MethodId} {av : Array Value} {s₂ : State} {L : List Loc} {k n : Nat} (hW : (T.calling g mk av).WarmedH s₂.vm) (hs : (T.calling g mk av).sameButNew ({ s₂ with vm := (T.calling g mk av).vm } : State) L k n) :
    ∃ T' : State, T'.heap = s₂.heap ∧ T'.vm = s₂.vm ∧ s₂ = T'.setFrames s₂.frames ∧ T'.frames = T.frames ∧ Stand p l e R s m args below meth c T' (locs ++ L) (cells + k) (slots + n) := by
  have h := X.here
  obtain ⟨g₀, hg0⟩ := Option.isSome_iff_exists.mp h.top
  obtain ⟨r, hr⟩ := State.topJava?_eq_some.mp hg0
  obtain ⟨e2, q2, q3, q4, q5, q6⟩ := hs
  have hW' : T.WarmedH s₂.vm := hW
  refine ⟨(({ T with heap := s₂.heap, slotsUsed := s₂.slotsUsed } : State).setVm s₂.vm), rfl, rfl, ?_, rfl, ?_⟩
  · have e3 : s₂ = ({ s₂ with vm := (T.calling g mk av).vm } : State).setVm s₂.vm := rfl
    rw [e2] at e3
    refine e3.trans ?_
    rw [State.calling_eq h.top, State.setFrames_setFrames]
    rfl
  · have hsame : T.sameButNew ({ T with heap := s₂.heap, slotsUsed := s₂.slotsUsed } : State) L k n := by
      refine ⟨?_, q2, q3, q4, q5, q6⟩
      obtain ⟨t, ht, -⟩ := State.frames_cons hr
      show ({ T with heap := s₂.heap, slotsUsed := s₂.slotsUsed } : State) = { T.setFrames T.frames with heap := s₂.heap, slotsUsed := s₂.slotsUsed }
      rw [State.setFrames_self ht]
    exact ⟨X.admits, X.cas, X.clock, X.frames, X.room, X.hears, X.method, X.code, (X.here.setHeapUsed s₂.heap s₂.slotsUsed).setVm hW'.alike, X.tail, State.WarmedH.trans X.warmed hW', X.limits, X.bytes, X.same.trans (hsame.setVm s.vm)⟩
/-- the end of a method of the face: it answers, or it throws and has changed nothing -/
def cx_Q (D : va_G) (cI cJ cZ : ClassId) (r : Nat → Nat) (sh : sx_S) (Q : sx_Q) : Array Value → State → Outcome → State → Prop := fun av st o t =>
  (sx_Qc D cI cJ cZ r sh Q av st o t ∧ ∃ L, FrameEnd st o t L 1 6 ∧ ∀ q ∈ L, sx_A r sh st.heap.size q.base) ∨
  ∃ (k : Nat) (h' : sx_H) (a : Nat), o = .threw a ∧ Q (some (.retAddr k)) h' ∧ st.WarmedH t.vm ∧ st.sameButNew ({ t with vm := st.vm } : State) [] 1 6 ∧ sx_P D cI cJ cZ r sh h' t.heap ∧
    ∃ ce : Cell, t.heap[a]? = some ce ∧ st.vm.findClass (sx_exc k) = some ce.cls ∧ ce.vm = .none
def cx_Pc (D : va_G) (cI cJ cZ : ClassId) (r : Nat → Nat) (sh : sx_S) (h : sx_H) (sz : Nat) (as : List Value) : Array Value → State → Prop := fun v U => sx_Pc D cI cJ cZ r sh h sz as v U ∧ sx_tfx v U
theorem cx_met {D : va_G} {cI cJ cZ : ClassId} {r : Nat → Nat} {sh : sx_S} {h : sx_H} {j : Nat} (hj : j < sx_nM) (hrc : sx_rc j = 1) {as : List Value} {Q : sx_Q} (hcat : sx_cat as ≤ sx_ml j) (hsem : sx_sem l sh j 0 (sx_entry (sx_ml j) as) [] h Q) (sz : Nat) :
    MetFree l (sx_y j) (headSpec (sx_ws j) (sx_rm j)) (cx_Pc D cI cJ cZ r sh h sz as) (fun _ _ _ _ _ => True) (cx_Q D cI cJ cZ r sh Q) := by
  obtain ⟨-, -, -, hplain, how, -, -⟩ := sx_mfacts hj
  refine MetFree.of_bodyS (code := sx_b j) (maxLocals := sx_ml j) (ret := sx_rt j) hplain ?_ ?_
  · intro args s m h hn
    obtain ⟨meth, c, h1, h2, h3, h4, h5, h6, -, -⟩ := Cond.code_spec hn (atoms_spec (ws := sx_ws j) h _ List.mem_cons_self)
    exact ⟨meth, c, h1, h2, h3, h4, h5, h6⟩
  · intro p e s m args below meth c s₁ B hml hv _
    obtain ⟨⟨rfl, rfl, hinj, hK, hP⟩, htf⟩ := hv
    have hts := atoms_spec (ws := sx_ws j) B.pre
    have hown : s.vm.findClass (sx_own j) = some m.cls := by rw [how]; exact findClass_of_methodNamed B.named
    have hexc : c.exceptionTable.isEmpty = true := B.noHandlers (hts _ List.mem_cons_self)
    have hw := hsem D cI cJ cZ r p e s m (as.map (sx_v r)).toArray below meth c s.heap [] _ ⟨B.exec, B.bytes, B.returns, hml, hown, fun w hw => hts w (List.mem_cons_of_mem _ hw), B.notSynchronized, fun _ => ⟨htf, hexc⟩⟩ hinj hK hP (sx_lo_entry r hcat) va_S.rf
    have hh0 : s₁.heap = s.heap := by rw [B.state]; rfl
    obtain ⟨t, a1, hz⟩ := hw s₁ hh0 (Stand.of_body B)
    rcases hz with ⟨o, b1, b2, b3, L, b4, b5⟩ | ⟨k, h', a, hq, b1, b2, b3, b4, b5, ce, b6, b7, b8⟩
    · rw [hrc] at b4
      exact ⟨t, o, by rw [lg_entry_eq]; exact a1, b1, b2, Or.inl ⟨b3, L, b4, b5⟩⟩
    · exact ⟨t, .threw a, by rw [lg_entry_eq]; exact a1, b1, b2, Or.inr ⟨k, h', a, rfl, hq, b3, b4, b5, ce, b6, b7, b8⟩⟩
/-- the call, both ways on -/
theorem cx_callV (X : Stand p l e R s m args below meth c T locs cells slots) (hexec : p.tables.exec = Jvm.exec) {D : va_G} {cI cJ cZ : ClassId} {r : Nat → Nat} {sh : sx_S} {h : sx_H} {j index : Nat} {own C : String} (hj : j < sx_nM) {av : List Value} {b : Nat} {Q : sx_Q}
    (hM : MetFree l (sx_y j) (headSpec (sx_ws j) (sx_rm j)) (cx_Pc D cI cJ cZ r sh h T.heap.size (.ref b :: av)) (fun _ _ _ _ _ => True) (cx_Q D cI cJ cZ r sh Q)) (hrc : sx_rc j = 1)
    (hown : s.vm.findClass own = some m.cls) (hts : ∀ w ∈ sx_tb, w.before args s = true) (hlink : Cond.methodLink own index (sx_y j) ∈ sx_tb) (hst : sx_st j = false) (hsel : Cond.selects C (sx_y j) (sx_y j) ∈ sx_tb)
    (hd : (parseMethodDescriptor (sx_y j).desc).map (fun d => d.parameters.length) = some av.length)
    (hfr : sx_fr j + 1 ≤ R.frames) (hlc : 8 + (sx_ml j + 11) + sx_lc j ≤ R.locals) (hc1 : cells + 1 ≤ R.cells) (hc2 : slots + 6 ≤ R.slots)
    {cellB : Cell} (hcell : T.heap[r b]? = some cellB) (hobj : cellB.vm.isStatics = false) (hcls : s.vm.findClass C = some cellB.cls)
    (hpre : ∀ (U : State), U.heap = T.heap → s.WarmedH U.vm → cx_Pc D cI cJ cZ r sh h T.heap.size (.ref b :: av) (.ref (r b) :: av.map (sx_v r)).toArray U)
    {g : JFrame} (hg : g.method = m) (hsize : g.locals.size = c.maxLocals) {rest : List Value} (hstack : g.stack = (av.map (sx_v r)).reverse ++ .ref (r b) :: rest) (hW : 2 * g.monitorRoom + (rest.map fun v => v.category).sum ≤ 8) (hdg : decode c.code g.pc = .ok (.invokevirtual index, 3)) :
    (∃ (v : Option Value) (h' : sx_H) (T' : State) (L : List Loc), (Q v h' ∧ sx_nr v) ∧ sx_P D cI cJ cZ r sh h' T'.heap ∧ va_F (sx_A r sh T.heap.size) T T' ∧ (∀ q ∈ L, sx_A r sh T.heap.size q.base) ∧ Stand p l e R s m args below meth c T' (locs ++ L) (cells + 1) (slots + 6) ∧
        ∀ target, Steps p.tables e below (T'.setTop { g with pc := g.pc + 3, stack := (v.map (sx_v r)).toList ++ rest }) target → Steps p.tables e below (T.setTop g) target) ∨
    ∃ (k : Nat) (h' : sx_H) (a : Nat) (T' : State), Q (some (.retAddr k)) h' ∧ sx_P D cI cJ cZ r sh h' T'.heap ∧ (∀ q, q < T.heap.size → T'.heap[q]? = T.heap[q]?) ∧ T.heap.size ≤ T'.heap.size ∧ Stand p l e R s m args below meth c T' locs (cells + 1) (slots + 6) ∧
        (∃ ce : Cell, T'.heap[a]? = some ce ∧ s.vm.findClass (sx_exc k) = some ce.cls ∧ ce.vm = .none) ∧
        ∀ target, Steps p.tables e below ((T'.setTop { g with stack := rest }).pushFrame (.throwing a)) target → Steps p.tables e below (T.setTop g) target := by
  obtain ⟨hini, -, hinst, -, -, hn1, hn2⟩ := sx_mfacts hj
  have hinst := hinst hst
  have hcode := sx_mcode hj
  obtain ⟨mk, methM, hnamed, hmethM, hstM, habM⟩ := Cond.instanceMethod_spec (hts _ hinst)
  obtain ⟨methM', cM, hmethM', hcM, -, hlM, -, -, -, hsigM⟩ := Cond.code_spec hnamed (hts _ hcode)
  cases hmethM.symm.trans hmethM'
  obtain ⟨c2, r2, m2, q1, q2, q3, q4, kP, hkP, hkPi⟩ := Cond.selects_spec (hts _ hsel)
  cases hcls.symm.trans q1
  cases (State.methodFound?_of_named hnamed ⟨hn1, hn2⟩).symm.trans q2
  cases hnamed.symm.trans q3
  have hselP : selectMethod e.platform s.vm cellB.cls mk = .method mk := by rw [Launch.admits_selectMethod X.admits]; exact q4
  have hlen : (av.map (sx_v r)).length = methM.sig.parameters.length := by
    rw [hsigM] at hd
    rw [List.length_map]
    exact (Option.some.inj hd).symm
  obtain ⟨vm₁, X₁, hstep₁⟩ := X.invokevirtual hexec hown (hts _ hlink) hnamed hmethM hstM hkP hkPi ⟨hn1, hn2⟩ (a := r b) (cell := cellB) hcell
    (fun z h => by rw [h] at hobj; cases hobj) hselP hmethM habM hkP hkPi (g := g) hg (argsL := av.map (sx_v r)) (rest := rest) hlen hstack hdg
  have hn1' := X₁.named hnamed
  obtain ⟨kY, hkY, -⟩ := className_of_methodNamed hn1'
  have wd : ∀ w ∈ sx_tb, ∀ (a' : Array Value), w.before a' (T.setVm vm₁) = true := fun w hw a' => word_at X₁.warmed (sx_tb_good hw) (hts w hw)
  have hinitY : kY.init = .initialized := Cond.initialized_spec (findClass_of_methodNamed hn1') hkY (wd _ hini #[])
  have hAt : At (T.setVm vm₁) ({ g with stack := rest } : JFrame).method c below := by
    show At (T.setVm vm₁) g.method c below
    rw [hg]; exact X₁.here
  have hpreAll : (headSpec (sx_ws j) (sx_rm j)).pre.before (Value.ref (r b) :: av.map (sx_v r)).toArray (T.setVm vm₁) = true := atoms_intro fun w hw => by
    rcases List.mem_cons.mp hw with rfl | hw
    · exact wd _ hcode _
    · exact wd _ hw _
  have hroom := X₁.room_calling (g := { g with stack := rest }) (R' := sx_rm j) (args' := (Value.ref (r b) :: av.map (sx_v r)).toArray) (m' := mk) hsize (by rw [X₁.warmed.alike.method?]; exact hmethM) hcM hfr
    (by rw [hlM]; show 2 * g.monitorRoom + (rest.map fun v => v.category).sum + (sx_ml j + 11) + sx_lc j ≤ _; omega) (by show cells + sx_rc j ≤ _; omega) (by show slots + 6 * sx_rc j ≤ _; omega)
  have happ := Spec.appliesLoose_calling (S := headSpec (sx_ws j) (sx_rm j)) (g := { g with stack := rest }) hAt hdg hn1' hkY hinitY hroom hpreAll
  obtain ⟨mid, hmid⟩ := hAt.above
  have hfr2 : ((T.setVm vm₁).setTop { g with stack := rest }).frames = (.java { g with stack := rest } :: mid) ++ below := by rw [State.frames_setTop' _ hAt.top, hmid]; rfl
  obtain ⟨o, s₂, hsteps, -, hend, hq⟩ := Steps.callFree hM p X.admits X.cas X.clock (acts := []) hfr2 happ (hpre _ rfl X₁.warmed) trivial
  rw [State.frames_setTop' _ hAt.top] at hend
  obtain ⟨g₀, hg0⟩ := Option.isSome_iff_exists.mp hAt.top
  obtain ⟨rr, hrr⟩ := State.topJava?_eq_some.mp hg0
  have hq : cx_Q D cI cJ cZ r sh Q (Value.ref (r b) :: av.map (sx_v r)).toArray ((T.setVm vm₁).calling { g with stack := rest } mk (Value.ref (r b) :: av.map (sx_v r)).toArray) o s₂ := hq
  rcases hq with ⟨⟨⟨v, h', hQ, ho, hP', hnr⟩, hF⟩, L, ⟨-, hW₂, hsame⟩, hL⟩ | ⟨k, h', a, ho, hQ, hW₂, hsame, hP', ce, hce, hcl, hcv⟩
  · left
    subst ho
    obtain ⟨T', e1, e2, e3, e4, X'⟩ := cx_after X₁ hW₂ hsame
    refine ⟨v, h', T', L, ⟨hQ, hnr⟩, by rw [e1]; exact hP', ?_, hL, X', fun target ht => hstep₁ _ fun acts => ?_⟩
    · refine ⟨by rw [e1]; exact hF.1, fun q h1 h2 => by rw [e1]; exact hF.2 q h1 h2⟩
    · rw [doInvoke_state]
      refine hsteps.trans ?_
      obtain ⟨c₂, i₂, len₂, hc₂, hd₂, hf₂⟩ := hend
      have hlen3 : len₂ = 3 := by
        have h1 : s₂.code? g.method = (T.setVm vm₁).code? g.method := by rw [State.code?_eq, State.code?_eq, (show (T.setVm vm₁).WarmedH s₂.vm from hW₂).alike.method?]
        have h2 : c₂ = c := Option.some.inj (hc₂.symm.trans (h1.trans hAt.code))
        rw [h2] at hd₂
        have h3 := hd₂.symm.trans hdg
        cases h3
        rfl
      subst hlen3
      rw [e3, hf₂]
      have hfT : T'.frames = .java g₀ :: rr := by rw [e4]; exact hrr
      rw [State.setTop_of_frames _ hfT] at ht
      have htail : (T.setVm vm₁).frames.tail = rr := by rw [hrr]; rfl
      rw [htail]
      exact ht
  · right
    subst ho
    obtain ⟨T', e1, e2, e3, e4, X'⟩ := cx_after X₁ hW₂ hsame
    rw [List.append_nil] at X'
    refine ⟨k, h', a, T', hQ, by rw [e1]; exact hP', fun q hq => by rw [e1]; exact sx_same_cell hsame hq, by rw [e1]; exact hsame.2.1, X', ⟨ce, by rw [e1]; exact hce, ?_, hcv⟩, fun target ht => hstep₁ _ fun acts => ?_⟩
    · have h1 : (T.setVm vm₁).vm.findClass (sx_exc k) = some ce.cls := hcl
      rw [X₁.warmed.alike.findClass] at h1
      exact h1
    · rw [doInvoke_state]
      refine hsteps.trans ?_
      have hf₂ : s₂.frames = .throwing a :: .java { g with stack := rest } :: (T.setVm vm₁).frames.tail := hend
      rw [e3, hf₂]
      have hfT : T'.frames = .java g₀ :: rr := by rw [e4]; exact hrr
      have hft : (T'.setTop { g with stack := rest }).pushFrame (.throwing a) = T'.setFrames (.throwing a :: .java { g with stack := rest } :: rr) := by
        rw [State.pushFrame, State.frames_setTop _ hfT, State.setTop_of_frames _ hfT, State.setFrames_setFrames]
      rw [hft] at ht
      have htail : (T.setVm vm₁).frames.tail = rr := by rw [hrr]; rfl
      rw [htail]
      exact ht
end CX
