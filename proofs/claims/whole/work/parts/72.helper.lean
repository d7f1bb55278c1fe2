-- THE LAW'S HELPERS: a call of the class inside a try
section HP
def is_rs : Cond → Bool
  | .isRef (.static _ _ _) => true
  | .castable _ _ => true
  | .declares _ => true
  | .laysStatic _ _ _ => true
  | _ => false
theorem castable_moved {a b : String} {s U : State} {A A' : Array Value} (hal : s.vm.Alike U.vm) (h : (Cond.castable a b).before A s = true) : (Cond.castable a b).before A' U = true :=
  va_tabs rfl (rfl : (s.setVm U.vm).vm = U.vm) ((Cond.castable_setVm (args := A) hal a b).trans h)
theorem declares_moved {x : MethodName} {s U : State} {A A' : Array Value} (hal : s.vm.Alike U.vm) (h : (Cond.declares x).before A s = true) : (Cond.declares x).before A' U = true :=
  va_tabs rfl (rfl : (s.setVm U.vm).vm = U.vm) ((Cond.declares_setVm (args := A) hal x).trans h)
theorem laysStatic_moved {O n d : String} {s U : State} {A A' : Array Value} (hal : s.vm.Alike U.vm) (hk : ∀ q, q < s.heap.size → U.heap[q]? = s.heap[q]?) (h : (Cond.laysStatic O n d).before A s = true) : (Cond.laysStatic O n d).before A' U = true := by
  obtain ⟨c, k, i, f, a, cell, hc, hi, hst, ha, hcell, hs, hcls, hlt, hty⟩ := Cond.laysStatic_spec h
  obtain ⟨k', hi', hek⟩ := State.fieldFound?_setVm hal hi
  have hi2 : U.fieldFound? O n d = some (c, k', i, f) := hi'
  exact Cond.laysStatic_of (s := U) (by rw [hal.findClass]; exact hc) hi2 hst (by rw [hek]; exact ha) (by rw [hk a (Array.getElem?_eq_some_iff.mp hcell).1]; exact hcell) hs hcls hlt (by rw [hek]; exact hty)
theorem tf_good : ∀ k, k < 3 → ∀ w ∈ sx_oa k, (goodWord w || is_rs w) = true := by
  have h : (List.range 3).all (fun k => (sx_oa k).all (fun w => goodWord w || is_rs w)) = true := by decide +kernel
  intro k hk w hw
  exact List.all_eq_true.mp (List.all_eq_true.mp h k (List.mem_range.mpr hk)) w hw
theorem static_moved {O n d : String} {s U : State} {v : Value} {A A' : Array Value} (hal : s.vm.Alike U.vm) (hk : ∀ q, q < s.heap.size → U.heap[q]? = s.heap[q]?) (hv : (Term.static O n d).eval A s none [] s = some v) : (Term.static O n d).eval A' U none [] U = some v := by
  cases hi : s.fieldFound? O n d with
  | none => simp [Term.eval, State.fieldNamed?, hi] at hv
  | some w =>
    obtain ⟨c, k, i, f⟩ := w
    obtain ⟨hst, a, cell, ha, hcell, -, hslot⟩ := Term.static_spec hi hv
    have hs : cell.vm.isStatics = true := by
      simp only [Term.eval, State.fieldNamed?, hi, Option.bind_eq_bind, Option.bind_some, hst, beq_self_eq_true, if_true, Option.pure_def, ha, hcell] at hv
      by_cases h' : cell.vm.isStatics = true
      · exact h'
      · simp [h'] at hv
    obtain ⟨k', hi', hek⟩ := State.fieldFound?_setVm hal hi
    have hi2 : U.fieldFound? O n d = some (c, k', i, f) := hi'
    exact Term.static_eval (s := U) hi2 hst (by rw [hek]; exact ha) (by rw [hk a (Array.getElem?_eq_some_iff.mp hcell).1]; exact hcell) hs hslot
theorem isRef_moved {O n d : String} {s U : State} {A A' : Array Value} (hal : s.vm.Alike U.vm) (hk : ∀ q, q < s.heap.size → U.heap[q]? = s.heap[q]?) (h : (Cond.isRef (.static O n d)).before A s = true) : (Cond.isRef (.static O n d)).before A' U = true := by
  cases hv : (Term.static O n d).eval A s none [] s with
  | none => simp [Cond.before, Cond.holds, Cond.value, hv] at h
  | some w =>
    have h2 := static_moved (A' := A') hal hk hv
    simp only [Cond.before, Cond.holds, Cond.value, hv] at h
    simp only [Cond.before, Cond.holds, Cond.value, h2]
    exact h
theorem tf_move {s U : State} {A A' : Array Value} (hW : s.WarmedH U.vm) (hk : ∀ q, q < s.heap.size → U.heap[q]? = s.heap[q]?) (h : sx_tfx A s) : sx_tfx A' U := by
  refine ⟨fun k hk3 w hw => ?_, fun q hq => ?_⟩
  · have hb := h.1 k hk3 w hw
    have hg := tf_good k hk3 w hw
    rw [Bool.or_eq_true] at hg
    rcases hg with hg | hg
    · exact word_at hW (good_of_word hg) hb
    · cases w with
      | isRef t =>
        cases t with
        | static O n d => exact isRef_moved hW.alike hk hb
        | _ => cases hg
      | castable a b => exact castable_moved hW.alike hb
      | declares x => exact declares_moved hW.alike hb
      | laysStatic O n d => exact laysStatic_moved hW.alike hk hb
      | _ => cases hg
  · obtain ⟨a, ha⟩ := h.2 q hq
    exact ⟨a, ha.warm hW⟩
def nc : Cond := .castable "java/lang/IllegalStateException" "java/lang/IllegalArgumentException"
/-- what the helpers ask of a state besides the world -/
def tU (U : State) : Prop := sx_tfx #[] U ∧ nc.before #[] U = false
theorem tU_move {s U : State} (hW : s.WarmedH U.vm) (hk : ∀ q, q < s.heap.size → U.heap[q]? = s.heap[q]?) (h : tU s) : tU U := by
  refine ⟨tf_move hW hk h.1, ?_⟩
  have h1 : nc.before #[] (s.setVm U.vm) = nc.before #[] s := Cond.castable_setVm hW.alike _ _
  have h2 : nc.before #[] U = nc.before #[] (s.setVm U.vm) := by
    unfold nc
    simp only [Cond.before, Cond.holds, Cond.value, State.vm_setVm]
  rw [h2, h1]; exact h.2
def hPc (D : va_G) (cI cJ cZ : ClassId) (r : Nat → Nat) (h : sx_H) (sz : Nat) (as : List Value) : Array Value → State → Prop :=
  va_Pc (as.map (sx_v r)) (fun U => U.heap.size = sz ∧ sx_inj r sx_w sz ∧ sx_K D cI cJ cZ U ∧ sx_P D cI cJ cZ r sx_w h U.heap ∧ tU U)
variable {p : Program} {l : Launch} {e : Env} {R : Room} {s : State} {m : MethodId} {args : Array Value} {below : List Frame} {meth : Method} {c : Code} {H : Heap} {locs : List Loc} {cells slots : Nat} {Q0 : State → Prop}
variable {D : va_G} {cI cJ cZ : ClassId} {r : Nat → Nat} {h : sx_H} {pc : Nat} {ls : Array Slot} {rest : List Value} {cc : ByteArray}
theorem hPc_blind {sz : Nat} {as : List Value} : FrameBlind (hPc D cI cJ cZ r h sz as) := by
  intro a U g mk ⟨h1, h2, h3, h4, h5, h6⟩
  exact ⟨h1, h2, h3, sx_K_calling g mk a h4, h5, tU_move (s := U) (U := U.calling g mk a) (State.WarmedH.refl U) (fun q _ => rfl) h6⟩
/-- the call of a method of the face, both ways on -/
theorem hp_call {own : String} {j index : Nat} {av : List Value} {Q : sx_Q} {sh : sx_S} (hsh : sh.1 = sx_shp) (hx : p.tables.exec = Jvm.exec) (hb : c.code = cc) (hown : s.vm.findClass own = some m.cls) (hts : ∀ w ∈ sx_tb, w.before args s = true) (hj : j < sx_nM) (hrc : sx_rc j = 1) (hcat : sx_cat (.ref 0 :: av) ≤ sx_ml j) (hsem : sx_sem l sh j 0 (sx_entry (sx_ml j) (.ref 0 :: av)) [] h Q)
    (hlink : Cond.methodLink own index (sx_y j) ∈ sx_tb) (hst : sx_st j = false) (hyc : (sx_y j).cls = RK6) (hsel : Cond.selects RK6 (sx_y j) (sx_y j) ∈ sx_tb) (hd : (parseMethodDescriptor (sx_y j).desc).map (fun d => d.parameters.length) = some av.length) (hfr : sx_fr j + 1 ≤ R.frames) (hlc : 8 + (sx_ml j + 11) + sx_lc j ≤ R.locals) (hc1 : cells + 1 ≤ R.cells) (hc2 : slots + 6 ≤ R.slots)
    (hinj : sx_inj r sh s.heap.size) (hK : sx_K D cI cJ cZ s) (hP : sx_P D cI cJ cZ r sh h H) (hS : va_S (sx_A r sx_w s.heap.size) s.heap H locs) (ht : tU s) (hkeep : H = s.heap) (hsize : ls.size = c.maxLocals) (hr8 : (rest.map fun v => v.category).sum ≤ 8) (hdg : decode cc pc = .ok (.invokevirtual index, 3))
    (kN : ∀ (v : Option Value) (h' : sx_H) (H1 : Heap) (locs1 : List Loc), Q v h' ∧ sx_nr v → sx_P D cI cJ cZ r sh h' H1 → va_S (sx_A r sx_w s.heap.size) s.heap H1 locs1 → W p l e R s m args below meth c H1 locs1 (cells + 1) (slots + 6) Q0 (F0 m (pc + 3) ls ((v.map (sx_v r)).toList ++ rest)))
    (kT : ∀ (k : Nat) (h' : sx_H) (a : Nat) (ce : Cell), Q (some (.retAddr k)) h' → s.vm.findClass (sx_exc k) = some ce.cls → ce.vm = .none → ∃ pc' : Nat, (∀ S : State, s.WarmedH S.vm → S.heap[a]? = some ce → ∃ vm', s.WarmedH vm' ∧ cx_R e S (F0 m pc ls rest) a c.exceptionTable.toList pc' vm') ∧
        ∀ (H1 : Heap), sx_P D cI cJ cZ r sh h' H1 → va_S (sx_A r sx_w s.heap.size) s.heap H1 locs → W p l e R s m args below meth c H1 locs (cells + 1) (slots + 6) Q0 (F0 m pc' ls [.ref a])) :
    W p l e R s m args below meth c H locs cells slots Q0 (F0 m pc ls ((av.map (sx_v r)).reverse ++ .ref (r 0) :: rest)) := by
  intro T hT X
  have hM := cx_met (D := D) (cI := cI) (cJ := cJ) (cZ := cZ) (r := r) hj hrc hcat hsem T.heap.size
  have h0 : (sh.1 0).1 = 10 := by rw [hsh]; rfl
  obtain ⟨q, hq, cell, q1, q2, q3, q4⟩ := sx_at_ob (hP 0) h0
  obtain ⟨-, hfc, -⟩ := hK.1.1 6 _ hq
  cases hq
  have hsz : T.heap.size = s.heap.size := by rw [hT, hkeep]
  have hmove : ∀ (U : State), U.heap = T.heap → s.WarmedH U.vm → cx_Pc D cI cJ cZ r sh h T.heap.size (.ref 0 :: av) (.ref (r 0) :: av.map (sx_v r)).toArray U := fun U hU hW =>
    ⟨⟨rfl, by rw [hU], by rw [hsz]; exact hinj, sx_K_warm hW hK, by rw [hU, hT]; exact hP⟩, tf_move hW (fun z _ => by rw [hU, hT, hkeep]) ht.1⟩
  have hA : ∀ z, sx_A r sh T.heap.size z → sx_A r sx_w s.heap.size z := fun z hz => by
    rcases hz with ⟨-, a, h1, h2⟩ | hz
    · exact Or.inl ⟨rfl, a, by rw [hsh] at h1; exact h1, h2⟩
    · exact Or.inr (by omega)
  rcases cx_callV X hx (C := RK6) (index := index) (own := own) (b := 0) (av := av) (rest := rest) hj hM hrc hown hts hlink hst hsel hd hfr hlc hc1 hc2 (by rw [hT]; exact q1) (by rw [q3]; rfl) (by rw [q2]; exact hfc) hmove (g := F0 m pc ls ((av.map (sx_v r)).reverse ++ .ref (r 0) :: rest)) rfl hsize rfl (by show 2 * 0 + _ ≤ 8; omega) (by rw [hb]; exact hdg) with ⟨v, h', T', L, hQ, hP', hF, hL, X', st⟩ | ⟨k, h', a, T', hQ, hP', hold, hbig, X', ⟨ce, g1, g2, g3⟩, st⟩
  · obtain ⟨t2, b1, b2⟩ := kN v h' T'.heap (locs ++ L) hQ hP' ⟨by have := hF.1; omega, fun z h1 h2 => by
        rw [hF.2 z (by omega) (fun q => h2 (hA z q)), hT]; exact hS.2.1 z h1 h2, fun z hz => by
        rcases List.mem_append.mp hz with h1 | h1
        · exact hS.2.2 z h1
        · exact hA _ (hL z h1)⟩ T' rfl X'
    exact ⟨t2, st t2 b1, b2⟩
  · obtain ⟨pc', hf, kk⟩ := kT k h' a ce hQ g2 g3
    obtain ⟨vm', X'', st2⟩ := cx_caught X' (g := F0 m pc ls rest) rfl (a := a) (pc' := pc') (fun S hW hh => hf S hW (by rw [hh]; exact g1))
    obtain ⟨t2, b1, b2⟩ := kk T'.heap hP' ⟨by omega, fun z h1 h2 => by rw [hold z (by omega), hT]; exact hS.2.1 z h1 h2, hS.2.2⟩ (T'.setVm vm') rfl X''
    exact ⟨t2, st t2 (st2 t2 b1), b2⟩
/-- a static method with handlers is called -/
theorem hp_runS {own : String} {index mc ms ml : Nat} {y : MethodName} {b : ByteArray} {hd : List (Nat × Nat × Nat × Nat)} {rm : Room} {Pc : Array Value → State → Prop} {Qc : Array Value → State → Outcome → State → Prop} {free : Addr → Prop} {As : List Value} {g : JFrame} (hx : p.tables.exec = Jvm.exec) (hb : c.code = cc) (hown : s.vm.findClass own = some m.cls) (hts : ∀ w ∈ sx_tb, w.before args s = true)
    (hM : Met l y (.codeWith y b ml (some .int) hd :: sx_tb) rm Pc Qc mc ms free) (w1 : Cond.codeWith y b ml (some .int) hd ∈ sx_tb) (w2 : Cond.methodLink own index y ∈ sx_tb) (w3 : Cond.static y ∈ sx_tb) (w4 : Cond.initialized y.cls ∈ sx_tb) (hy : y.cls ≠ "java/lang/invoke/MethodHandle" ∧ y.cls ≠ "java/lang/invoke/VarHandle") (hn : (parseMethodDescriptor y.desc).map (fun d => d.parameters.length) = some As.length) (hrc : rm.cells = mc) (hrs : rm.slots = ms) (hfr : rm.frames + 1 ≤ R.frames) (hlc : 8 + (ml + 11) + rm.locals ≤ R.locals) (hc1 : cells + mc ≤ R.cells) (hc2 : slots + ms ≤ R.slots)
    (hpre : ∀ U : State, U.heap = H → s.WarmedH U.vm → Pc As.toArray U) (hblind : FrameBlind Pc) (hg : g.method = m) (hsize : g.locals.size = c.maxLocals) (hstack : g.stack = As.reverse ++ rest) (hW : 2 * g.monitorRoom + (rest.map fun v => v.category).sum ≤ 8) (hdg : decode cc g.pc = .ok (.invokestatic index, 3)) (hret : ∀ av st o t, Qc av st o t → ∃ v, o = .returned v) :
    va_Run p l e R s m args below meth c H locs cells slots mc ms g rest (Qc As.toArray) free := by
  intro T hT X
  obtain ⟨mk, methM, cM, hnamed, hmethM, hcM, -, hlM, -, -, -, hsigM⟩ := Cond.codeWith_spec (hts _ w1)
  have hstatic : methM.isStatic = true := Cond.static_spec hnamed hmethM (hts _ w3)
  obtain ⟨kP, hkP, -⟩ := className_of_methodNamed hnamed
  have hinitP : kP.init = .initialized := Cond.initialized_spec (findClass_of_methodNamed hnamed) hkP (hts _ w4)
  have hlen : As.length = methM.sig.parameters.length := by
    rw [hsigM] at hn
    exact (Option.some.inj hn).symm
  obtain ⟨vm₁, X₁, hstep₁⟩ := X.invokestatic hx hown (hts _ w2) hnamed hmethM hstatic hkP hinitP hy (g := g) hg (argsL := As) (rest := rest) hlen hstack (by rw [hb]; exact hdg)
  have hn1' := X₁.named hnamed
  obtain ⟨kY, hkY, -⟩ := className_of_methodNamed hn1'
  have wd : ∀ w ∈ sx_tb, ∀ (a' : Array Value), w.before a' (T.setVm vm₁) = true := fun w hw a' => word_at X₁.warmed (sx_tb_good hw) (hts w hw)
  have hinitY : kY.init = .initialized := Cond.initialized_spec (findClass_of_methodNamed hn1') hkY (wd _ w4 #[])
  have hAt : At (T.setVm vm₁) ({ g with stack := rest } : JFrame).method c below := by
    show At (T.setVm vm₁) g.method c below
    rw [hg]; exact X₁.here
  have hpreAll : (headSpec (.codeWith y b ml (some .int) hd :: sx_tb) rm).pre.before As.toArray (T.setVm vm₁) = true := atoms_intro fun w hw => by
    rcases List.mem_cons.mp hw with rfl | hw
    · exact wd _ w1 _
    · exact wd _ hw _
  have hroom := X₁.room_calling (g := { g with stack := rest }) (R' := rm) (args' := As.toArray) (m' := mk) hsize (by rw [X₁.warmed.alike.method?]; exact hmethM) hcM hfr
    (by rw [hlM]; show 2 * g.monitorRoom + (rest.map fun v => v.category).sum + (ml + 11) + rm.locals ≤ _; omega) (by rw [hrc]; exact hc1) (by rw [hrs]; exact hc2)
  have happ := Spec.appliesLoose_calling (S := headSpec (.codeWith y b ml (some .int) hd :: sx_tb) rm) (g := { g with stack := rest }) hAt (by rw [hb]; exact hdg) hn1' hkY hinitY hroom hpreAll
  obtain ⟨mid, hmid⟩ := hAt.above
  have hfr2 : ((T.setVm vm₁).setTop { g with stack := rest }).frames = (.java { g with stack := rest } :: mid) ++ below := by rw [State.frames_setTop' _ hAt.top, hmid]; rfl
  obtain ⟨o, s₂, hsteps, -, hend, hq⟩ := Steps.callFree hM p X.admits X.cas X.clock (acts := []) hfr2 happ (hblind _ _ _ _ (hpre _ hT X₁.warmed)) trivial
  rw [State.frames_setTop' _ hAt.top] at hend
  obtain ⟨g₀, hg0⟩ := Option.isSome_iff_exists.mp hAt.top
  obtain ⟨rr, hrr⟩ := State.topJava?_eq_some.mp hg0
  obtain ⟨hq, L, ⟨-, hW₂, hsame⟩, hL⟩ := hq
  obtain ⟨v, rfl⟩ := hret _ _ _ _ hq
  obtain ⟨T', e1, e2, e3, e4, X'⟩ := cx_after X₁ hW₂ hsame
  refine ⟨v, _, s₂, T', L, (by show T.heap = H; exact hT), X', hL, e1, e2, hq, fun target ht => hstep₁ _ fun acts => ?_⟩
  rw [doInvoke_state]
  refine hsteps.trans ?_
  obtain ⟨c₂, i₂, len₂, hc₂, hd₂, hf₂⟩ := hend
  have hlen3 : len₂ = 3 := by
    have h1 : s₂.code? g.method = (T.setVm vm₁).code? g.method := by rw [State.code?_eq, State.code?_eq, (show (T.setVm vm₁).WarmedH s₂.vm from hW₂).alike.method?]
    have h2 : c₂ = c := Option.some.inj (hc₂.symm.trans (h1.trans hAt.code))
    rw [h2, hb] at hd₂
    have h3 := hd₂.symm.trans hdg
    cases h3
    rfl
  subst hlen3
  rw [e3, hf₂]
  have hfT : T'.frames = .java g₀ :: rr := by rw [e4]; exact hrr
  rw [State.setTop_of_frames _ hfT] at ht
  have htail : (T.setVm vm₁).frames.tail = rr := by rw [hrr]; rfl
  rw [htail]
  exact ht
end HP
