-- A THROW IN A METHOD OF THE FACE
def sx_ci (k : Nat) : Nat := [47, 64, 125].getD k 0
theorem sx_x0 : Cond.classLink "GateText" (sx_ci 0) (sx_exc 0) ∈ sx_tb ∧ Cond.instantiable (sx_exc 0) 6 ∈ sx_tb ∧ Cond.initialized (sx_exc 0) ∈ sx_tb := ⟨sx_in_mem (i := 559) (by decide +kernel), sx_in_mem (i := 560) (by decide +kernel), sx_in_mem (i := 74) (by decide +kernel)⟩
theorem sx_x1 : Cond.classLink "GateText" (sx_ci 1) (sx_exc 1) ∈ sx_tb ∧ Cond.instantiable (sx_exc 1) 6 ∈ sx_tb ∧ Cond.initialized (sx_exc 1) ∈ sx_tb := ⟨sx_in_mem (i := 627) (by decide +kernel), sx_in_mem (i := 628) (by decide +kernel), sx_in_mem (i := 75) (by decide +kernel)⟩
theorem sx_x2 : Cond.classLink "GateText" (sx_ci 2) (sx_exc 2) ∈ sx_tb ∧ Cond.instantiable (sx_exc 2) 6 ∈ sx_tb ∧ Cond.initialized (sx_exc 2) ∈ sx_tb := ⟨sx_in_mem (i := 687) (by decide +kernel), sx_in_mem (i := 688) (by decide +kernel), sx_in_mem (i := 77) (by decide +kernel)⟩
theorem sx_xk {k : Nat} (hk : k < 3) : Cond.classLink "GateText" (sx_ci k) (sx_exc k) ∈ sx_tb ∧ Cond.instantiable (sx_exc k) 6 ∈ sx_tb ∧ Cond.initialized (sx_exc k) ∈ sx_tb := by
  match k, hk with
  | 0, _ => exact sx_x0
  | 1, _ => exact sx_x1
  | 2, _ => exact sx_x2
/-- a throw's site: what stands behind the 'new' -/
def sx_site (j pc : Nat) : Bool := match sx_code j pc with
  | some (.new i, _) => match sx_thr j i, sx_code j (pc + 3), sx_code j (pc + 4), sx_code j (pc + 6), sx_code j (pc + 9) with
    | some k, some (.dup, _), some (.ldc q, _), some (.invokespecial ic, _), some (.athrow, _) => Nat.blt k 3 && (Nat.beq i (sx_ci k) && (Nat.beq ic (sx_xi k) && ((sx_strs.any fun z => Nat.beq z.1 q) && (Nat.beq (sx_rc j) 1 && (decide (sx_own j = "GateText") && (Nat.ble 6 (sx_fr j) && Nat.ble 82 (sx_lc j)))))))
    | _, _, _, _, _ => false
  | _ => true
set_option maxRecDepth 100000 in
theorem sx_site_ok : (List.range sx_nM).all (fun j => (List.range (sx_N j)).all (sx_site j)) = true := by decide +kernel
theorem sx_sitef {j pc i len k : Nat} (hd : sx_code j pc = some (.new i, len)) (hk : sx_thr j i = some k) : ∃ q tx, k < 3 ∧ i = sx_ci k ∧ (q, tx) ∈ sx_strs ∧ sx_rc j = 1 ∧ sx_own j = "GateText" ∧ 6 ≤ sx_fr j ∧ 82 ≤ sx_lc j ∧
    decode (sx_b j) pc = .ok (.new i, 3) ∧ decode (sx_b j) (pc + 3) = .ok (.dup, 1) ∧ decode (sx_b j) (pc + 4) = .ok (.ldc q, 2) ∧ decode (sx_b j) (pc + 6) = .ok (.invokespecial (sx_xi k), 3) ∧ decode (sx_b j) (pc + 9) = .ok (.athrow, 1) := by
  have hj := sx_code_lt hd
  have hp : pc < sx_N j := by
    rcases Nat.lt_or_ge pc (sx_N j) with q | q
    · exact q
    · rw [sx_nk j hj pc q] at hd; cases hd
  have h1 := sx_all (sx_all sx_site_ok hj) hp
  unfold sx_site at h1
  rw [hd] at h1
  dsimp only at h1
  rw [hk] at h1
  split at h1
  · rename_i k' l3 q l4 ic l6 l9 e0 e3 e4 e6 e9
    cases e0
    simp only [Bool.and_eq_true, decide_eq_true_eq, List.any_eq_true] at h1
    obtain ⟨a1, a2, a3, ⟨⟨q', tx⟩, b1, b2⟩, a5, a6, a7, a8⟩ := h1
    have b2 : q' = q := Nat.eq_of_beq_eq_true b2
    subst b2
    have a3 : ic = sx_xi k := Nat.eq_of_beq_eq_true a3
    subst a3
    exact ⟨q', tx, Nat.le_of_ble_eq_true a1, Nat.eq_of_beq_eq_true a2, b1, Nat.eq_of_beq_eq_true a5, a6, Nat.le_of_ble_eq_true a7, Nat.le_of_ble_eq_true a8, sx_dec hd, sx_dec e3, sx_dec e4, sx_dec e6, sx_dec e9⟩
  · cases h1
theorem sx_same_cell {s t : State} {cells slots : Nat} (h : s.sameButNew t [] cells slots) {a : Nat} (ha : a < s.heap.size) : t.heap[a]? = s.heap[a]? := by
  have hc : s.heap[a]? = some s.heap[a] := Array.getElem?_eq_getElem ha
  obtain ⟨c', h1, h2, h3, h4⟩ := h.2.2.2.2.2 a _ hc
  rw [h1, hc, h2]
  have : c'.slots = s.heap[a].slots := by
    apply Array.ext_getElem?
    intro i
    exact h4 i (by simp)
  rw [this]
theorem ox_fit {k : Nat} (hk : k < 3) : Bundle.fit (sx_exc k) = true := by
  match k, hk with
  | 0, _ => decide +kernel
  | 1, _ => decide +kernel
  | 2, _ => decide +kernel
theorem ox_d0 {k : Nat} (hk : k < 3) : decode (sx_rx k) 0 = .ok (.aload_n 0, 1) := by
  match k, hk with
  | 0, _ => decide +kernel
  | 1, _ => decide +kernel
  | 2, _ => decide +kernel
theorem ox_d1 {k : Nat} (hk : k < 3) : decode (sx_rx k) 1 = .ok (.aload_n 1, 1) := by
  match k, hk with
  | 0, _ => decide +kernel
  | 1, _ => decide +kernel
  | 2, _ => decide +kernel
theorem ox_d2 {k : Nat} (hk : k < 3) : decode (sx_rx k) 2 = .ok (.invokespecial (sx_ix k), 3) := by
  match k, hk with
  | 0, _ => decide +kernel
  | 1, _ => decide +kernel
  | 2, _ => decide +kernel
theorem ox_d5 {k : Nat} (hk : k < 3) : decode (sx_rx k) 5 = .ok (.return_, 1) := by
  match k, hk with
  | 0, _ => decide +kernel
  | 1, _ => decide +kernel
  | 2, _ => decide +kernel
theorem ox_sel {s : State} {args : Array Value} {X : String} {y : MethodName} {cX : ClassId} {m : MethodId} {pl : Platform} (hpl : ∀ c m', selectMethod pl s.vm c m' = selectMethod {} s.vm c m') (w : (Cond.selects X y y).before args s = true) (h1 : s.vm.findClass X = some cX) (h2 : s.methodNamed? y = some m) (hy : y.cls ≠ "java/lang/invoke/MethodHandle" ∧ y.cls ≠ "java/lang/invoke/VarHandle") : selectMethod pl s.vm cX m = .method m := by
  obtain ⟨c2, r2, m2, q1, q2, q3, q4, -⟩ := Cond.selects_spec w
  rw [h1] at q1
  rw [h2] at q3
  rw [State.methodFound?_of_named h2 hy] at q2
  cases q1
  cases q2
  cases q3
  rw [hpl]
  exact q4
set_option maxHeartbeats 4000000 in
theorem ox_throw {p : Program} {l : Launch} {e : Env} {R : Room} {s : State} {m : MethodId} {args : Array Value} {below : List Frame} {meth : Method} {c : Code} {V : State} {cells slots k : Nat} (X : Stand p l e R s m args below meth c V [] cells slots) (hx : p.tables.exec = Jvm.exec) (htr : e.platform.stackTraces = false) (hk3 : k < 3) (hown : s.vm.findClass "GateText" = some m.cls) (htf : ∀ w ∈ sx_oa k, w.before args s = true)
    {a q : Addr} {cX : ClassId} {kX : Class} (hfX : s.vm.findClass (sx_exc k) = some cX) (hkX : s.vm.classes[cX]? = some kX) (hcell : V.heap[a]? = some (freshCell cX kX)) (hnew : s.heap.size ≤ a) {pc : Nat} {ls : Array Slot} (hsz : ls.size = c.maxLocals)
    (hd6 : decode c.code pc = .ok (.invokespecial (sx_xi k), 3)) (hd9 : decode c.code (pc + 3) = .ok (.athrow, 1)) (hexc : c.exceptionTable.isEmpty = true) (hfr : 6 ≤ R.frames) (hlc : 82 ≤ R.locals) (hlk : meth.locks = false) :
    ∃ U : State, Steps p.tables e below (V.setTop (F0 m pc ls [.ref q, .ref a, .ref a])) U ∧ U.status = .running ∧ Ended U below (.threw a) ∧ s.WarmedH U.vm ∧ s.sameButNew ({ U with vm := s.vm } : State) [] cells slots ∧ ∃ ce, U.heap[a]? = some ce ∧ ce.cls = cX ∧ ce.vm = .none := by
  have hpl : e.platform.magicAccessors = ({} : Platform).magicAccessors := by rw [X.admits.platform]
  have w : ∀ x, x ∈ sx_oa k → x.holds args s none s [] = true := htf
  obtain ⟨T, Z0, L, -, Y⟩ := ThrowableC.of_atoms (args := args) (s := s) (pl := e.platform) (by rw [X.admits.platform]) (by rw [X.admits.platform]) hpl (fun x hx => htf x (by simp [sx_oa, hx]))
  obtain ⟨Z, M, LZ, LM, hnZ⟩ := Init0T.ofS_atoms (args := args) hpl L Y (fun x hx => htf x (by simp [sx_oa, hx]))
  obtain ⟨P1, L1, hP1m, hsup⟩ := PassC.ofS_atoms (args := args) (s := s) hpl (X := sx_exc k) (Y := "java/lang/RuntimeException") (Bundle.fit_spec (ox_fit hk3)).1 (by decide) (ox_d0 hk3) (ox_d1 hk3) (ox_d2 hk3) (ox_d5 hk3) (fun x hx => htf x (by simp [sx_oa, hx]))
  obtain ⟨P2, Ps', hlen, L2, hL', hP2m, hl1', hl2'⟩ := Bundle.chainS (args := args) hpl hnZ ["java/lang/Exception"] "java/lang/RuntimeException" (by decide +kernel) (by decide +kernel) (fun x hx => htf x (by simp [sx_oa, hx]))
  obtain ⟨Ps, hPs⟩ : ∃ Ps, Ps = P2 :: Ps' := ⟨_, rfl⟩
  have hlen : Ps.length = 2 := by rw [hPs, List.length_cons, hlen]; rfl
  have hL : ∀ P, P ∈ Ps → P.LinksS e.platform s := fun P hP => by
    rw [hPs] at hP
    exact (List.mem_cons.mp hP).elim (fun z => z ▸ L2) (hL' P)
  have hl1 : P1.sup = firstOf (Z.m T.toThrowableT) (Ps.map (·.toPassT)) := by
    rw [hPs]
    exact Option.some.inj (hsup.symm.trans hP2m)
  have hl2 : PassesOn (Z.m T.toThrowableT) (Ps.map (·.toPassT)) := by
    rw [hPs]
    exact ⟨hl1', hl2'⟩
  have hf1 : s.vm.findClass (sx_exc k) = some P1.m.cls := findClass_of_methodNamed hP1m
  rw [hfX] at hf1
  have e1 : cX = P1.m.cls := Option.some.inj hf1
  subst e1
  obtain ⟨c1, k1, hc1, hk1, hord, -, -, -⟩ := Cond.instantiable_spec (w (.instantiable (sx_exc k) 6) (by simp [sx_oa]))
  rw [hfX] at hc1
  cases hc1
  rw [hkX] at hk1
  cases hk1
  have hs0 := ox_sel (Launch.admits_selectMethod X.admits s.vm) (w (.selects (sx_exc k) Bundle.tFill0 Bundle.tFill0) (by simp [sx_oa])) hfX Y.fill0 (by decide)
  have hs1 := ox_sel (Launch.admits_selectMethod X.admits s.vm) (w (.selects (sx_exc k) Bundle.tFill Bundle.tFill) (by simp [sx_oa])) hfX Y.fill (by decide)
  obtain ⟨cS, hcS, hiS⟩ := Y.statics
  obtain ⟨u0, hu0⟩ := Cond.staticRefV Y.unassigned L.unassignedStatic L.statics hcS hiS (w (.isRef (.static Bundle.tN "UNASSIGNED_STACK" Bundle.steD)) (by simp [sx_oa]))
  obtain ⟨sen, hsen⟩ := Cond.staticRefV Y.sentinel L.sentinelStatic L.statics hcS hiS (w (.isRef (.static Bundle.tN "SUPPRESSED_SENTINEL" Bundle.listD)) (by simp [sx_oa]))
  obtain ⟨ci, ib, fB, hb1, hb2, hb3, hb4, -, hnB, htB, hffB⟩ := Cond.ownField (t := .object "java/lang/Object") Y.found L.cls (by decide +kernel) (w (.fieldLink Bundle.tN 198 Bundle.tN "backtrace" "Ljava/lang/Object;") (by simp [sx_oa])) (w (.lays Bundle.tN Bundle.tN "backtrace" "Ljava/lang/Object;") (by simp [sx_oa])) e.platform hpl
  have hltS : T.aS < s.heap.size := (Array.getElem?_eq_some_iff.mp hcS).1
  have hneS : T.aS ≠ a := Nat.ne_of_lt (Nat.lt_of_lt_of_le hltS hnew)
  have hcV : V.heap[T.aS]? = some cS := (sx_same_cell X.same hltS).trans hcS
  obtain ⟨iM, hffM⟩ := Y.msg
  obtain ⟨tC, dC, oC, nC⟩ := Cond.laysAt hfX hkX Y.cause (w (.lays (sx_exc k) Bundle.tN "cause" "Ljava/lang/Throwable;") (by simp [sx_oa]))
  obtain ⟨tS, dS, oS, nS⟩ := Cond.laysAt hfX hkX Y.stack (w (.lays (sx_exc k) Bundle.tN "stackTrace" Bundle.steD) (by simp [sx_oa]))
  obtain ⟨tP, dP, oP, nP⟩ := Cond.laysAt hfX hkX Y.supp (w (.lays (sx_exc k) Bundle.tN "suppressedExceptions" Bundle.listD) (by simp [sx_oa]))
  obtain ⟨tM, -, -, -⟩ := Cond.laysAt hfX hkX hffM (w (.lays (sx_exc k) Bundle.tN "detailMessage" "Ljava/lang/String;") (by simp [sx_oa]))
  obtain ⟨tB, dB, oB, nB⟩ := Cond.laysAt hfX hkX hffB (w (.lays (sx_exc k) Bundle.tN "backtrace" "Ljava/lang/Object;") (by simp [sx_oa]))
  have bC := Cond.laysApart oB oC nB nC (by rw [hnB, Y.causeName]; decide)
  have bS := Cond.laysApart oB oS nB nS (by rw [hnB, Y.stackName]; decide)
  have bP := Cond.laysApart oB oP nB nP (by rw [hnB, Y.suppName]; decide)
  have hfree : ((preparedCellV T.toThrowableT (freshCell P1.m.cls kX) a u0 sen).withEntry V.cur).slots[fB.slot]? = some .null := by
    have h0 := fresh_default (c := P1.m.cls) tB
    rw [htB] at h0
    simpa [preparedCellV, Cell.setSlot, Cell.withEntry, Array.getElem?_setIfInBounds, bC, bS, bP, bC.symm, bS.symm, bP.symm, defaultValue] using h0
  have hskip : SkipFacts T e.platform s (fun u => u) u0 ((preparedCellV T.toThrowableT (freshCell P1.m.cls kX) a u0 sen).withEntry V.cur) := ⟨{ ci198 := ci, i198 := ib, fBack := fB }, ⟨hb1, hb2, hb3, hb4⟩, hfree, fun _ _ => rfl⟩
  obtain ⟨tm, -, -, -, vm₁, hnC, -, -, -, -, -, -, -, hW₁, st1⟩ := Steps.initColdS (tb := p.tables) (e := e) (below := below) (s := s) (U := V) X.here hx X.warmed hpl hown (t := Bundle.initS (sx_exc k)) rfl rfl (Bundle.fit_spec (ox_fit hk3)).2
    (w (.methodLink "GateText" (sx_xi k) (Bundle.initS (sx_exc k))) (by simp [sx_oa])) (htf (.instanceMethod (Bundle.initS (sx_exc k))) (by simp [sx_oa, Bundle.passSAtoms])) (bytes := sx_rx k) (maxL := 2) (htf (.code (Bundle.initS (sx_exc k)) (sx_rx k) 2 none) (by simp [sx_oa, Bundle.passSAtoms]))
    (f := F0 m pc ls [.ref q, .ref a, .ref a]) rfl (a := a) (msg := .ref q) (rest := [.ref a]) rfl hd6
  rw [hP1m] at hnC
  cases hnC
  have X₁ := X.noted hW₁
  obtain ⟨vm₂, X₂, st2⟩ := X₁.ctorMessageOffV hx (g := F0 m pc ls [.ref a]) rfl hsz T L Z LZ M LM (P1 :: Ps) (fun P hP => (List.mem_cons.mp hP).elim (fun z => z ▸ L1) (hL P)) ⟨hl1, hl2⟩ (u0 := u0) (sen := sen) (self := a) (msg := .ref q) rfl (cell := freshCell P1.m.cls kX) (cellS := cS)
    hcell (fun _ => by simp) (by simp) rfl rfl hs0 hs1 hcV hneS (fun hu => by rw [hu] at hiS; cases hiS) hu0 hsen
    (Takes.of_laid hkX hord tC (by rw [Y.causeType]; rfl)) (Takes.of_laid hkX hord tS (by rw [Y.stackType]; exact fits_refV_array _ u0)) (Takes.of_laid hkX hord tP (by rw [Y.suppType]; exact fits_refV_object _ sen)) (Takes.of_laid hkX hord tM (by rw [Y.msgType]; exact fits_refV_object _ ⟨.ref q, rfl⟩)) Y.objLocals hskip htr [] hd6
    (by simp only [List.length_cons, hlen]; omega) (by
      simp only [List.length_cons, hlen]
      show 2 * 0 + 1 + (13 * (2 + 1) + 42) ≤ R.locals
      omega)
  obtain ⟨hwalk, hrun, hended, hWU, hsame⟩ := X₂.athrowLeaves hx (g := F0 m (pc + 3) ls [.ref a]) rfl rfl rfl (covers_of_empty hexc _) (a := a) (rest := []) rfl hd9 hlk
  have hlt : a < ((V.setVm vm₁).setVm vm₂).heap.size := (Array.getElem?_eq_some_iff.mp hcell).1
  refine ⟨_, st1 _ (fun acts => ?_), hrun, hended, hWU, hsame.weaken (fun y hy hlt' => ?_) (Nat.le_refl _) (Nat.le_refl _), _, heapAt_setCell_self (s := (V.setVm vm₁).setVm vm₂) (plainBareV T.toThrowableT (freshCell P1.m.cls kX) a u0 sen (.ref q)) hlt, rfl, rfl⟩
  · rw [doInvoke_state]
    exact st2 _ hwalk
  · have hb : y.base = a := by
      simp only [List.nil_append, List.mem_cons, List.not_mem_nil, or_false] at hy
      rcases hy with rfl | rfl | rfl | rfl | rfl <;> rfl
    rw [hb] at hlt'
    exact absurd hlt' (Nat.not_lt.mpr hnew)
set_option maxHeartbeats 4000000 in
theorem sx_newOk_t {l : Launch} (hl : l.flags = pinnedFlags ++ [noTraceFlag]) (sh : sx_S) : sx_newOk l sh := by
  intro j pc lv h Q i len k hd hk hw hQ D cI cJ cZ r p e s m args below meth c Hp locs ls hctx hinj hK hP hlo hS
  obtain ⟨hx, hb, hr, hml, hown, hts, hlk, htf⟩ := hctx
  obtain ⟨q, tx, hk3, hi, hstr, hrc, hgt, hfr, hlc, hd0, hd3, hd4, hd6, hd9⟩ := sx_sitef hd hk
  obtain ⟨⟨htf, hst⟩, hexc⟩ := htf hrc
  obtain ⟨qa, hqa⟩ := hst _ hstr
  obtain ⟨hx1, hx2, hx3⟩ := sx_xk hk3
  rw [hgt] at hown
  subst hi
  refine va_forget (fun z hz => ?_) ?_
  · rcases hS.2.2 z hz with ⟨h1, -⟩ | h1
    · rw [hw] at h1; cases h1
    · exact h1
  intro T hT X
  obtain ⟨vm₁, cX, kX, hfX, hkX, -, -, X₁, st1⟩ := X.newCold hx (own := "GateText") (C := sx_exc k) (index := sx_ci k) (n := 6) hown (hts _ hx1) (hts _ hx2) (hts _ hx3) (g := F0 m pc ls []) rfl (by rw [hb]; exact hd0)
    (by show 0 + 1 ≤ sx_rc j; omega) (by show 0 + 6 ≤ 6 * sx_rc j; omega)
  have key : W p l e (sx_rm j) s m args below meth c ((T.setVm vm₁).pushCell (freshCell cX kX)).heap [] (0 + 1) (0 + 6) (sx_Z j D cI cJ cZ r sh Q below args s) (F0 m (pc + 3) ls [.ref T.heap.size]) := by
    refine lv_dup hx hb hd3 rfl ?_
    refine va_ldcS hx hb hown hqa hd4 ?_
    intro T2 hT2 X2
    have htr : e.platform.stackTraces = false := Launch.traces_off hl X2.admits
    have hcell : T2.heap[T.heap.size]? = some (freshCell cX kX) := by rw [hT2]; exact State.heap_pushCell_size _ _
    have hnew : s.heap.size ≤ T.heap.size := by rw [hT]; exact hS.1
    obtain ⟨U, hsteps, hrun, hend, hW, hsame, ce, hce, Kc, Kv⟩ := ox_throw X2 hx htr hk3 hown (htf k hk3) (q := qa) hfX hkX hcell hnew (pc := pc + 6) (ls := ls) (by rw [hml]; exact hlo.1) (by rw [hb]; exact hd6) (by rw [hb]; exact hd9) hexc (by show 6 ≤ sx_fr j; omega) (by show 82 ≤ sx_lc j; omega) hlk
    refine ⟨U, hsteps, Or.inr ⟨k, h, T.heap.size, hQ, hrun, hend, hW, hsame, fun a => ?_, ce, hce, by rw [Kc]; exact hfX, Kv⟩⟩
    by_cases hz : (sh.1 a).1 = 0
    · unfold sx_at; rw [hz]; trivial
    · refine (hP a).kept ?_
      have hlt := hinj.2 a hz
      rw [show U.heap[r a]? = s.heap[r a]? from sx_same_cell hsame hlt]
      exact (hS.2.1 (r a) hlt (fun hA => by
        rcases hA with ⟨h1, -⟩ | h1
        · rw [hw] at h1; cases h1
        · omega)).symm
  obtain ⟨t, a1, b1⟩ := key _ rfl X₁
  exact ⟨t, st1 t a1, b1⟩
