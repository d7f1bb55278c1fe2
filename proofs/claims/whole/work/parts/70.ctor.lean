-- THE CONSTRUCTORS: an object at h0, and what it makes behind the heap as it stood
section CT
/-- an object of class ci with the fields V -/
def co (D : va_G) (ci : Nat) (V : Nat → Value) (o : Option Cell) : Prop := ∃ q : vw_C, vwCl[ci]? = some q ∧ ∃ cell : Cell, o = some cell ∧ cell.cls = D.1 ci ∧ cell.vm = .none ∧ ∀ k, k < q.2.2 → cell.slots[D.2 ci k]? = some (V k)
/-- a new array -/
def ca (cA : ClassId) (n : Nat) (v : Value) (o : Option Cell) : Prop := o = some (arrV cA n (fun _ => v))
def cA (h0 sz : Nat) : Nat → Prop := fun q => q = h0 ∨ sz ≤ q
def cS (D : va_G) (ci h0 sz : Nat) (H : Heap) (V : Nat → Value) (cs : List (Option Cell → Prop)) : Prop := H.size = sz + cs.length ∧ co D ci V H[h0]? ∧ (∀ (i : Nat) (P : Option Cell → Prop), cs[i]? = some P → P H[sz + i]?) ∧ h0 < sz
variable {p : Program} {l : Launch} {e : Env} {R : Room} {s : State} {m : MethodId} {args : Array Value} {below : List Frame} {meth : Method} {c : Code} {H : Heap} {locs : List Loc} {cells slots : Nat} {Q : State → Prop}
variable {D : va_G} {cI cJ cZ : ClassId} {pc : Nat} {ls : Array Slot} {rest : List Value} {cc : ByteArray}
theorem cS.pushed {ci h0 sz : Nat} {H1 : Heap} {V : Nat → Value} {cs : List (Option Cell → Prop)} {P : Option Cell → Prop} (h : cS D ci h0 sz H V cs) (z : H1.size = H.size + 1) (o : ∀ q, q < H.size → H1[q]? = H[q]?) (hP : P H1[H.size]?) : cS D ci h0 sz H1 V (cs ++ [P]) := by
  obtain ⟨a1, a2, a3, a4⟩ := h
  refine ⟨by rw [z, a1, List.length_append]; rfl, by rw [o h0 (by omega)]; exact a2, fun i P' hi => ?_, a4⟩
  rcases get_app hi with ⟨b1, b2⟩ | ⟨b1, b2⟩
  · rw [o _ (by omega)]; exact a3 i P' b2
  · subst b1 b2
    rw [← a1]; exact hP
theorem cS.set {ci h0 sz : Nat} {H1 : Heap} {V V1 : Nat → Value} {cs : List (Option Cell → Prop)} (h : cS D ci h0 sz H V cs) (z : H1.size = H.size) (o : ∀ q, q ≠ h0 → H1[q]? = H[q]?) (hc : co D ci V1 H1[h0]?) : cS D ci h0 sz H1 V1 cs := by
  obtain ⟨a1, a2, a3, a4⟩ := h
  exact ⟨by rw [z, a1], hc, fun i P hi => by rw [o _ (by omega)]; exact a3 i P hi, a4⟩
theorem ct_S_push {h0 sz : Nat} {H0 H1 : Heap} (hS : va_S (cA h0 sz) H0 H locs) (z : H1.size = H.size + 1) (o : ∀ q, q < H.size → H1[q]? = H[q]?) : va_S (cA h0 sz) H0 H1 locs :=
  ⟨Nat.le_trans hS.1 (by omega), fun q h1 h2 => (o q (Nat.lt_of_lt_of_le h1 hS.1)).trans (hS.2.1 q h1 h2), hS.2.2⟩
/-- a final field is put -/
theorem ct_putF (hx : p.tables.exec = Jvm.exec) (hb : c.code = cc) {C : String} {T : u_T} {N ci k index h0 sz : Nat} {v : Value} {V : Nat → Value} {cs : List (Option Cell → Prop)} {ty : FieldType} {H0 : Heap} (hown : s.vm.findClass C = some m.cls) (hts : ∀ w ∈ sx_tb, w.before args s = true) (hK : sx_K D cI cJ cZ s) (hin2 : meth.name = "<init>") (hc : vwCl[ci]? = some (C, T, N)) (hk : k < N) (hlink : Cond.fieldLink C index C (T k).2.1 (T k).2.2.1 ∈ sx_tb) (hT1 : (T k).1 = C) (hfin : (T k).2.2.2 = true) (hd : parseFieldDescriptor (T k).2.2.1 = some ty) (hn : narrow ty v = v) (hfit : fits ty v = true)
    (hcs : cS D ci h0 sz H V cs) (hS0 : va_S (cA h0 sz) H0 H locs) (hdg : decode cc pc = .ok (.putfield index, 3))
    (kk : ∀ (H1 : Heap) (locs1 : List Loc), cS D ci h0 sz H1 (updV V k v) cs → va_S (cA h0 sz) H0 H1 locs1 → W p l e R s m args below meth c H1 locs1 cells slots Q (F0 m (pc + 3) ls rest)) : W p l e R s m args below meth c H locs cells slots Q (F0 m pc ls (v :: .ref h0 :: rest)) := by
  obtain ⟨ty0, hin, hty, hnm, htf⟩ := sx_cls hc
  have hap := va_apart (own := C) (tys := [(cI, .int), (cJ, .long), (cZ, .boolean)]) hts hin ty0 hty hnm hK.1 hc
  obtain ⟨q, hq, cell, q1, q2, q3, q4⟩ := hcs.2.1
  have hr : q = (C, T, N) := Option.some.inj (hq.symm.trans hc)
  subst hr
  obtain ⟨hS, hfc, kC, hkC, hkind⟩ := hK.1.1 ci _ hc
  obtain ⟨cf, kf, fi, f, hi, hsl⟩ := hS k hk
  have hlay := hts _ (hin _ (u_in_lay hk))
  unfold u_lay at hlay
  rw [if_pos hfin] at hlay
  have hst := (u_facts hfc hkC (u_lays hts hin hk) hi).1
  have hcf : m.cls = cf := by
    obtain ⟨_, _, c', _, _, _, -, -, hf', -, -, -, hown2, -⟩ := Cond.laysFinal_spec hlay
    have e1 : c' = cf := by have := hi.symm.trans hf'; simp at this; exact this.1.symm
    rw [hT1] at hown2
    rw [← e1]; exact Option.some.inj (hown.symm.trans hown2)
  have h6 := u_fits hfc hkC hkind (Or.inr hlay) hi hd hn hfit
  have hi' := hi
  rw [hT1] at hi'
  refine W.putFinK hx hb hown (hts _ hlink) hi' hst hcf hin2 (by rw [q2]; exact h6) q1 q3 (by rw [hsl]; exact k2_hasslot (q4 k hk)) rfl rfl hdg fun H' e1 e2 e3 => ?_
  rw [hsl] at e1 ⊢
  exact kk H' _ (hcs.set e2 e3 ⟨_, hc, _, e1, q2, q3, t_set q4 hap hk v⟩) (hS0.put e2 e3 (Or.inl rfl))
/-- a field that is not final is put -/
theorem ct_putN (hx : p.tables.exec = Jvm.exec) (hb : c.code = cc) {C : String} {T : u_T} {N ci k index h0 sz : Nat} {v : Value} {V : Nat → Value} {cs : List (Option Cell → Prop)} {ty : FieldType} {H0 : Heap} (hown : s.vm.findClass C = some m.cls) (hts : ∀ w ∈ sx_tb, w.before args s = true) (hK : sx_K D cI cJ cZ s) (hc : vwCl[ci]? = some (C, T, N)) (hk : k < N) (hlink : Cond.fieldLink C index C (T k).2.1 (T k).2.2.1 ∈ sx_tb) (hT1 : (T k).1 = C) (hfin : (T k).2.2.2 = false) (hd : parseFieldDescriptor (T k).2.2.1 = some ty) (hn : narrow ty v = v) (hfit : fits ty v = true)
    (hcs : cS D ci h0 sz H V cs) (hS0 : va_S (cA h0 sz) H0 H locs) (hdg : decode cc pc = .ok (.putfield index, 3))
    (kk : ∀ (H1 : Heap) (locs1 : List Loc), cS D ci h0 sz H1 (updV V k v) cs → va_S (cA h0 sz) H0 H1 locs1 → W p l e R s m args below meth c H1 locs1 cells slots Q (F0 m (pc + 3) ls rest)) : W p l e R s m args below meth c H locs cells slots Q (F0 m pc ls (v :: .ref h0 :: rest)) := by
  obtain ⟨ty0, hin, hty, hnm, htf⟩ := sx_cls hc
  have hap := va_apart (own := C) (tys := [(cI, .int), (cJ, .long), (cZ, .boolean)]) hts hin ty0 hty hnm hK.1 hc
  obtain ⟨q, hq, cell, q1, q2, q3, q4⟩ := hcs.2.1
  have hr : q = (C, T, N) := Option.some.inj (hq.symm.trans hc)
  subst hr
  obtain ⟨hS, hfc, kC, hkC, hkind⟩ := hK.1.1 ci _ hc
  obtain ⟨cf, kf, fi, f, hi, hsl⟩ := hS k hk
  have hlay := hts _ (hin _ (u_in_lay hk))
  unfold u_lay at hlay
  rw [if_neg (by rw [hfin]; decide)] at hlay
  have hst := (u_facts hfc hkC (u_lays hts hin hk) hi).1
  have h6 := u_store hfc hkC hkind hlay hi hd hn hfit
  have hi' := hi
  rw [hT1] at hi'
  refine W.putK hx hb (f := f) ⟨hown, hts _ hlink, ⟨_, _, _, hi'⟩, hst⟩ (by rw [q2]; exact h6) q1 q3 (by rw [hsl]; exact k2_hasslot (q4 k hk)) rfl rfl hdg fun H' e1 e2 e3 => ?_
  rw [hsl] at e1 ⊢
  exact kk H' _ (hcs.set e2 e3 ⟨_, hc, _, e1, q2, q3, t_set q4 hap hk v⟩) (hS0.put e2 e3 (Or.inl rfl))
/-- a field is read -/
theorem ct_get (hx : p.tables.exec = Jvm.exec) (hb : c.code = cc) {C : String} {T : u_T} {N ci k index h0 sz : Nat} {V : Nat → Value} {cs : List (Option Cell → Prop)} (hown : s.vm.findClass C = some m.cls) (hts : ∀ w ∈ sx_tb, w.before args s = true) (hK : sx_K D cI cJ cZ s) (hc : vwCl[ci]? = some (C, T, N)) (hk : k < N) (hlink : Cond.fieldLink C index C (T k).2.1 (T k).2.2.1 ∈ sx_tb) (hT1 : (T k).1 = C) (hcs : cS D ci h0 sz H V cs) (hdg : decode cc pc = .ok (.getfield index, 3))
    (kk : W p l e R s m args below meth c H locs cells slots Q (F0 m (pc + 3) ls (V k :: rest))) : W p l e R s m args below meth c H locs cells slots Q (F0 m pc ls (.ref h0 :: rest)) := by
  obtain ⟨ty0, hin, hty, hnm, htf⟩ := sx_cls hc
  obtain ⟨q, hq, cell, q1, q2, q3, q4⟩ := hcs.2.1
  have hr : q = (C, T, N) := Option.some.inj (hq.symm.trans hc)
  subst hr
  obtain ⟨hS, hfc, kC, hkC, hkind⟩ := hK.1.1 ci _ hc
  obtain ⟨cf, kf, fi, f, hi, hsl⟩ := hS k hk
  have hi' := hi
  rw [hT1] at hi'
  refine W.getf hx hb hown (hts _ hlink) hi' (u_facts hfc hkC (u_lays hts hin hk) hi).1 q1 (by rw [q3]; exact fun h => by cases h) (v := V k) ?_ rfl rfl hdg kk
  rw [hsl, q4 k hk]
theorem cS.iast {ci h0 sz i : Nat} {H1 : Heap} {V : Nat → Value} {cs : List (Option Cell → Prop)} {P : Option Cell → Prop} (h : cS D ci h0 sz H V cs) (z : H1.size = H.size) (o : ∀ q, q ≠ sz + i → H1[q]? = H[q]?) (hP : P H1[sz + i]?) : cS D ci h0 sz H1 V (cs.set i P) := by
  obtain ⟨a1, a2, a3, a4⟩ := h
  refine ⟨by rw [z, a1, List.length_set], by rw [o h0 (by omega)]; exact a2, fun j P' hj => ?_, a4⟩
  by_cases q : i = j
  · subst q
    have hl := (List.getElem?_eq_some_iff.mp hj).1
    rw [List.length_set] at hl
    rw [List.getElem?_set_self hl] at hj
    cases hj
    exact hP
  · rw [List.getElem?_set_ne q] at hj
    rw [o _ (by omega)]
    exact a3 j P' hj
/-- a new array -/
theorem ct_newa (hx : p.tables.exec = Jvm.exec) (hb : c.code = cc) {atype : ArrayType} {cA' : ClassId} {ci h0 sz N : Nat} {n : Int32} {V : Nat → Value} {cs : List (Option Cell → Prop)} {H0 : Heap} (hts : ∀ w ∈ sx_tb, w.before args s = true) (hw : Cond.arrayClass (newarray.typeOf atype) ∈ sx_tb) (hcl : s.vm.findClass ("[" ++ (newarray.typeOf atype).toString) = some cA') (hn : ¬ n < 0) (hN : n.toNatClampNeg = N) (hby : N * componentBytes (newarray.typeOf atype) ≤ 536870912) (hc1 : cells + 1 ≤ R.cells) (hc2 : slots + N ≤ R.slots)
    (hcs : cS D ci h0 sz H V cs) (hS0 : va_S (cA h0 sz) H0 H locs) (hdg : decode cc pc = .ok (.newarray atype, 2))
    (kk : ∀ (H1 : Heap), cS D ci h0 sz H1 V (cs ++ [ca cA' N (defaultValue (newarray.typeOf atype))]) → va_S (cA h0 sz) H0 H1 locs → W p l e R s m args below meth c H1 locs (cells + 1) (slots + N) Q (F0 m (pc + 2) ls (.ref (sz + cs.length) :: rest))) : W p l e R s m args below meth c H locs cells slots Q (F0 m pc ls (.int n :: rest)) := by
  refine va_newaK hx hb (hts _ hw) (g := F0 m pc ls (.int n :: rest)) rfl hdg rfl hn hN hby hc1 hc2 hcs.1 (fun H1 cX e1 e2 e3 _ e5 => ?_)
  have ex : cX = cA' := Option.some.inj (e5.symm.trans hcl)
  subst ex
  have e3' : ∀ q, q < H.size → H1[q]? = H[q]? := fun q hq => e3 q (by rw [← hcs.1]; exact hq)
  exact kk H1 (hcs.pushed (by rw [e2, hcs.1]) e3' (by rw [hcs.1]; exact e1)) (ct_S_push hS0 (by rw [e2, hcs.1]) e3')
/-- a new object -/
theorem ct_new (hx : p.tables.exec = Jvm.exec) (hb : c.code = cc) {own C : String} {T : u_T} {N ci ci' index h0 sz : Nat} {V V0 : Nat → Value} {cs : List (Option Cell → Prop)} {H0 : Heap} (hown : s.vm.findClass own = some m.cls) (hts : ∀ w ∈ sx_tb, w.before args s = true) (hK : sx_K D cI cJ cZ s) (hc : vwCl[ci']? = some (C, T, N)) (w1 : Cond.classLink own index C ∈ sx_tb) (w2 : Cond.instantiable C N ∈ sx_tb) (w3 : Cond.initialized C ∈ sx_tb) (ty : Nat → FieldType) (hty : ∀ k, k < N → parseFieldDescriptor (T k).2.2.1 = some (ty k)) (hV : ∀ k, k < N → defaultValue (ty k) = V0 k) (hc1 : cells + 1 ≤ R.cells) (hc2 : slots + N ≤ R.slots)
    (hcs : cS D ci h0 sz H V cs) (hS0 : va_S (cA h0 sz) H0 H locs) (hdg : decode cc pc = .ok (.new index, 3))
    (kk : ∀ (H1 : Heap), cS D ci h0 sz H1 V (cs ++ [co D ci' V0]) → va_S (cA h0 sz) H0 H1 locs → W p l e R s m args below meth c H1 locs (cells + 1) (slots + N) Q (F0 m (pc + 3) ls (.ref (sz + cs.length) :: rest))) : W p l e R s m args below meth c H locs cells slots Q (F0 m pc ls rest) := by
  obtain ⟨ty0, hin, -, -, -⟩ := sx_cls hc
  have hKn := hK.1.1 ci' _ hc
  refine W.newcK hx hb hown (hts _ w1) (hts _ w2) (hts _ w3) rfl hdg hc1 hc2 hKn.2.1 rfl fun H1 kC hkC e1 z1 o1 => ?_
  have kk' := kk H1 (hcs.pushed z1 o1 ?_) (ct_S_push hS0 z1 o1)
  · rw [← hcs.1] at kk'
    exact kk'
  obtain ⟨cell, g1, g2, g3, g4⟩ := u_born ty hts hin hKn hkC e1 hty
  exact ⟨_, hc, cell, g1, g2, g3, fun k hk => (g4 k hk).trans (congrArg some (hV k hk))⟩
def ct_nest : List Cond := [.methodLinkNest "GateText" 11 ⟨"GateText$Reader", "<init>", "()V"⟩ "GateText", .methodLinkNest "GateText" 18 ⟨"GateText$Settler", "<init>", "()V"⟩ "GateText", .methodLinkNest "GateText" 25 ⟨"GateText$Walker", "<init>", "()V"⟩ "GateText", .methodLinkNest "GateText" 32 ⟨"GateText$Writer", "<init>", "()V"⟩ "GateText", .methodLinkNest "GateText" 39 ⟨"GateText$Circuit", "<init>", "()V"⟩ "GateText"]
theorem ct_nest_is {w : Cond} (hw : w ∈ ct_nest) : ∃ a i x q, w = .methodLinkNest a i x q := by
  unfold ct_nest at hw
  simp only [List.mem_cons, List.not_mem_nil, or_false] at hw
  rcases hw with rfl | rfl | rfl | rfl | rfl <;> exact ⟨_, _, _, _, rfl⟩
def cK (D : va_G) (cI cJ cZ : ClassId) (U : State) : Prop := sx_K D cI cJ cZ U ∧ ∀ w ∈ ct_nest, va_Nw w U
theorem cK_warm {U : State} (hW : s.WarmedH U.vm) (hK : cK D cI cJ cZ s) : cK D cI cJ cZ U := ⟨sx_K_warm hW hK.1, fun w hw => by
  obtain ⟨a, i, x, q, rfl⟩ := ct_nest_is hw
  exact va_Nw.warmM hW (hK.2 _ hw)⟩
theorem cK_calling {U : State} (g : JFrame) (mk : MethodId) (a : Array Value) (hK : cK D cI cJ cZ U) : cK D cI cJ cZ (U.calling g mk a) := ⟨sx_K_calling g mk a hK.1, fun w hw => by
  obtain ⟨a', i, x, q, rfl⟩ := ct_nest_is hw
  exact va_Nw.same rfl (u := U) (U := U.calling g mk a) rfl (hK.2 _ hw)⟩
/-- what a constructor's start is, and its end -/
def cPc (D : va_G) (cI cJ cZ : ClassId) (ci z sz : Nat) (V0 : Nat → Value) (As : List Value) : Array Value → State → Prop := va_Pc (.ref z :: As) (fun U => U.heap.size = sz ∧ z < sz ∧ cK D cI cJ cZ U ∧ co D ci V0 U.heap[z]?)
def cQc (D : va_G) (ci z sz : Nat) (V : Nat → Value) (K : List (Option Cell → Prop)) : Array Value → State → Outcome → State → Prop := fun _ st oc t => (oc = .returned none ∧ t.heap.size = sz + K.length ∧ co D ci V t.heap[z]? ∧ ∀ (i : Nat) (P : Option Cell → Prop), K[i]? = some P → P t.heap[sz + i]?) ∧ va_F (cA z sz) st t
theorem cPc_blind {ci z sz : Nat} {V0 : Nat → Value} {As : List Value} : FrameBlind (cPc D cI cJ cZ ci z sz V0 As) := by
  intro a U g mk ⟨h1, h2, h3, h4, h5⟩
  exact ⟨h1, h2, h3, cK_calling g mk a h4, h5⟩
def cws (y : MethodName) (b : ByteArray) (ml : Nat) : List Cond := .code y b ml none :: sx_tb
/-- behind a constructor's call for the object that was made last -/
theorem ct_back {ci ci' h0 sz mc ms : Nat} {V V0 V1 : Nat → Value} {cs K : List (Option Cell → Prop)} {H0 : Heap} {a : Array Value} {g : JFrame} (hg : g = F0 m pc ls g.stack)
    (hr : va_Run p l e R s m args below meth c H locs cells slots mc ms g rest (cQc D ci' (sz + cs.length) (sz + cs.length + 1) V1 K a) (cA (sz + cs.length) (sz + cs.length + 1)))
    (hcs : cS D ci h0 sz H V (cs ++ [co D ci' V0])) (hS0 : va_S (cA h0 sz) H0 H locs) (hsz : H0.size = sz)
    (kk : ∀ (H1 : Heap) (locs1 : List Loc), cS D ci h0 sz H1 V (cs ++ (co D ci' V1 :: K)) → va_S (cA h0 sz) H0 H1 locs1 → W p l e R s m args below meth c H1 locs1 (cells + mc) (slots + ms) Q { g with pc := g.pc + 3, stack := rest }) : W p l e R s m args below meth c H locs cells slots Q g := by
  have hlen : H.size = sz + cs.length + 1 := by rw [hcs.1, List.length_append]; rfl
  intro T hT X
  obtain ⟨v, st₀, t, T', L, h0', X', hL, e1, e2, ⟨⟨hv, z1, o1, o2⟩, hz, hk⟩, st⟩ := hr T hT X
  cases hv
  rw [h0'] at hz hk
  rw [← e1] at z1 o1 o2 hz hk
  obtain ⟨a1, a2, a3, a4⟩ := hcs
  have hold : ∀ q, q < sz + cs.length → T'.heap[q]? = H[q]? := fun q hq => hk q (by omega) (fun z => by unfold cA at z; omega)
  have hcs1 : cS D ci h0 sz T'.heap V (cs ++ (co D ci' V1 :: K)) := by
    refine ⟨by rw [z1, List.length_append, List.length_cons]; omega, by rw [hold h0 (by omega)]; exact a2, fun i P hi => ?_, a4⟩
    rcases Nat.lt_trichotomy i cs.length with q | q | q
    · rw [hold _ (by omega)]
      rw [List.getElem?_append_left q] at hi
      exact a3 i P (by rw [List.getElem?_append_left q]; exact hi)
    · subst q
      rw [List.getElem?_append_right (Nat.le_refl _), Nat.sub_self] at hi
      cases hi
      exact o1
    · obtain ⟨d, rfl⟩ : ∃ d, i = cs.length + 1 + d := ⟨i - (cs.length + 1), by omega⟩
      rw [List.getElem?_append_right (by omega), show cs.length + 1 + d - cs.length = d + 1 by omega, List.getElem?_cons_succ] at hi
      rw [show sz + (cs.length + 1 + d) = sz + cs.length + 1 + d by omega]
      exact o2 d P hi
  have hS1 : va_S (cA h0 sz) H0 T'.heap (locs ++ L) := by
    refine ⟨Nat.le_trans hS0.1 hz, fun q h1 h2 => ?_, fun q hq => ?_⟩
    · rw [hold q (by omega)]
      exact hS0.2.1 q h1 h2
    · rcases List.mem_append.mp hq with h1 | h1
      · exact hS0.2.2 q h1
      · have := hL q h1
        unfold cA at this ⊢
        omega
  obtain ⟨t2, b1, b2⟩ := kk T'.heap (locs ++ L) hcs1 hS1 T' rfl X'
  exact ⟨t2, st t2 b1, b2⟩
/-- a constructor is called for the object that was made last -/
theorem ct_call (hx : p.tables.exec = Jvm.exec) (hb : c.code = cc) {own : String} {y : MethodName} {b : ByteArray} {ml nL n ci ci' index h0 sz mc ms : Nat} {rm : Room} {V V0 V1 : Nat → Value} {cs K : List (Option Cell → Prop)} {As : List Value} {H0 : Heap} (hml : c.maxLocals = nL) (hown : s.vm.findClass own = some m.cls) (hts : ∀ w ∈ sx_tb, w.before args s = true) (hK : cK D cI cJ cZ s)
    (hM : Met l y (cws y b ml) rm (cPc D cI cJ cZ ci' (sz + cs.length) (sz + cs.length + 1) V0 As) (cQc D ci' (sz + cs.length) (sz + cs.length + 1) V1 K) mc ms (cA (sz + cs.length) (sz + cs.length + 1)))
    (w1 : Cond.code y b ml none ∈ sx_tb) (w2 : Cond.initialized y.cls ∈ sx_tb) (w3 : Cond.methodLink own index y ∈ sx_tb ∨ Cond.methodLinkNest own index y "GateText" ∈ ct_nest) (w4 : Cond.instanceMethod y ∈ sx_tb) (hy : y.name = "<init>") (hrc : rm.cells = mc) (hrs : rm.slots = ms) (hyc : y.cls ≠ "java/lang/invoke/MethodHandle" ∧ y.cls ≠ "java/lang/invoke/VarHandle" ∧ (parseMethodDescriptor y.desc).map (fun d => d.parameters.length) = some n) (hrm : rm.frames + 1 ≤ R.frames ∧ 8 + (ml + 11) + rm.locals ≤ R.locals)
    (hn : As.length = n) (hls : ls.size = nL) (hr8 : (rest.map fun v => v.category).sum ≤ 8) (hf : cells + mc ≤ R.cells ∧ slots + ms ≤ R.slots)
    (hcs : cS D ci h0 sz H V (cs ++ [co D ci' V0])) (hS0 : va_S (cA h0 sz) H0 H locs) (hsz : H0.size = sz) (hdg : decode cc pc = .ok (.invokespecial index, 3))
    (kk : ∀ (H1 : Heap) (locs1 : List Loc), cS D ci h0 sz H1 V (cs ++ (co D ci' V1 :: K)) → va_S (cA h0 sz) H0 H1 locs1 → W p l e R s m args below meth c H1 locs1 (cells + mc) (slots + ms) Q (F0 m (pc + 3) ls rest)) : W p l e R s m args below meth c H locs cells slots Q (F0 m pc ls (As.reverse ++ .ref (sz + cs.length) :: rest)) := by
  have hlen : H.size = sz + cs.length + 1 := by rw [hcs.1, List.length_append]; rfl
  have hgood : GoodIn sx_tb (cws y b ml) := fun w hw => by
    rcases List.mem_cons.mp hw with rfl | hw
    · exact ⟨w1, sx_tb_good w1⟩
    · exact ⟨hw, sx_tb_good hw⟩
  have hpre : PreS s H (cPc D cI cJ cZ ci' (sz + cs.length) (sz + cs.length + 1) V0 As) (.ref (sz + cs.length) :: As) := ⟨cPc_blind, fun U hU hW => ⟨rfl, by rw [hU]; exact hlen, Nat.lt_succ_self _, cK_warm hW hK, by rw [hU]; exact hcs.2.2.1 cs.length _ app_last⟩⟩
  rcases w3 with w3 | w3
  · have hB := callB_of (R := R) (mc := mc) (ms := ms) (rm := rm) (own := own) (index := index) n hts hgood rfl hrc hrs (hts _ w2) (hts _ w3) hyc hrm
    exact ct_back rfl (va_runI (As := As) (b := sz + cs.length) (rest := rest) ⟨hx, hb, hml, hown, hts⟩ hM ⟨hB, hy, hts _ w4⟩ hpre rfl hn hls rfl (by show 2 * 0 + _ ≤ 8; omega) hdg hf) hcs hS0 hsz kk
  · have hB := va_cnB (R := R) (mc := mc) (ms := ms) (rm := rm) (own := own) (index := index) (host := "GateText") n hts hgood rfl hrc hrs (hK.2 _ w3) (hts _ w2) hyc hrm
    exact ct_back rfl (va_runIN (As := As) (b := sz + cs.length) (rest := rest) ⟨hx, hb, hml, hown, hts⟩ hM ⟨hB, hy, hts _ w4⟩ hpre rfl hn hls rfl (by show 2 * 0 + _ ≤ 8; omega) hdg hf) hcs hS0 hsz kk
end CT
