-- THE LAW: its objects
section LWO
variable {p : Program} {l : Launch} {e : Env} {R : Room} {s : State} {m : MethodId} {args : Array Value} {below : List Frame} {meth : Method} {c : Code} {H : Heap} {locs : List Loc} {cells slots : Nat} {Q : State → Prop}
variable {D : va_G} {cI cJ cZ : ClassId} {pc : Nat} {ls : Array Slot} {rest : List Value} {cc : ByteArray}
/-- the cells behind the heap as it stood -/
def lB (s : State) (H : Heap) (cs : List (Option Cell → Prop)) : Prop := H.size = s.heap.size + cs.length ∧ ∀ (i : Nat) (P : Option Cell → Prop), cs[i]? = some P → P H[s.heap.size + i]?
theorem lB.pushed {H1 : Heap} {cs : List (Option Cell → Prop)} {P : Option Cell → Prop} (h : lB s H cs) (z : H1.size = H.size + 1) (o : ∀ q, q < H.size → H1[q]? = H[q]?) (hP : P H1[H.size]?) : lB s H1 (cs ++ [P]) := by
  obtain ⟨a1, a3⟩ := h
  refine ⟨by rw [z, a1, List.length_append]; rfl, fun i P' hi => ?_⟩
  rcases get_app hi with ⟨b1, b2⟩ | ⟨b1, b2⟩
  · rw [o _ (by omega)]; exact a3 i P' b2
  · subst b1 b2
    rw [← a1]; exact hP
theorem lB_S {H1 : Heap} (hS : va_S (lA s) s.heap H locs) (z : H1.size = H.size + 1) (o : ∀ q, q < H.size → H1[q]? = H[q]?) : va_S (lA s) s.heap H1 locs :=
  ⟨Nat.le_trans hS.1 (by omega), fun q h1 h2 => (o q (Nat.lt_of_lt_of_le h1 hS.1)).trans (hS.2.1 q h1 h2), hS.2.2⟩
theorem lw_newa (hx : p.tables.exec = Jvm.exec) (hb : c.code = cc) {atype : ArrayType} {cA' : ClassId} {N : Nat} {n : Int32} {cs : List (Option Cell → Prop)} (hts : ∀ w ∈ sx_tb, w.before args s = true) (hw : Cond.arrayClass (newarray.typeOf atype) ∈ sx_tb) (hcl : s.vm.findClass ("[" ++ (newarray.typeOf atype).toString) = some cA') (hn : ¬ n < 0) (hN : n.toNatClampNeg = N) (hby : N * componentBytes (newarray.typeOf atype) ≤ 536870912) (hc1 : cells + 1 ≤ R.cells) (hc2 : slots + N ≤ R.slots)
    (hcs : lB s H cs) (hS0 : va_S (lA s) s.heap H locs) (hdg : decode cc pc = .ok (.newarray atype, 2))
    (kk : ∀ (H1 : Heap), lB s H1 (cs ++ [ca cA' N (defaultValue (newarray.typeOf atype))]) → va_S (lA s) s.heap H1 locs → W p l e R s m args below meth c H1 locs (cells + 1) (slots + N) Q (F0 m (pc + 2) ls (.ref (s.heap.size + cs.length) :: rest))) : W p l e R s m args below meth c H locs cells slots Q (F0 m pc ls (.int n :: rest)) := by
  refine va_newaK hx hb (hts _ hw) (g := F0 m pc ls (.int n :: rest)) rfl hdg rfl hn hN hby hc1 hc2 hcs.1 (fun H1 cX e1 e2 e3 _ e5 => ?_)
  have ex : cX = cA' := Option.some.inj (e5.symm.trans hcl)
  subst ex
  have e3' : ∀ q, q < H.size → H1[q]? = H[q]? := fun q hq => e3 q (by rw [← hcs.1]; exact hq)
  exact kk H1 (hcs.pushed (by rw [e2, hcs.1]) e3' (by rw [hcs.1]; exact e1)) (lB_S hS0 (by rw [e2, hcs.1]) e3')
theorem lw_new (hx : p.tables.exec = Jvm.exec) (hb : c.code = cc) {own C : String} {T : u_T} {N ci' index : Nat} {V0 : Nat → Value} {cs : List (Option Cell → Prop)} (hown : s.vm.findClass own = some m.cls) (hts : ∀ w ∈ sx_tb, w.before args s = true) (hK : sx_K D cI cJ cZ s) (hc : vwCl[ci']? = some (C, T, N)) (w1 : Cond.classLink own index C ∈ sx_tb) (w2 : Cond.instantiable C N ∈ sx_tb) (w3 : Cond.initialized C ∈ sx_tb) (ty : Nat → FieldType) (hty : ∀ k, k < N → parseFieldDescriptor (T k).2.2.1 = some (ty k)) (hV : ∀ k, k < N → defaultValue (ty k) = V0 k) (hc1 : cells + 1 ≤ R.cells) (hc2 : slots + N ≤ R.slots)
    (hcs : lB s H cs) (hS0 : va_S (lA s) s.heap H locs) (hdg : decode cc pc = .ok (.new index, 3))
    (kk : ∀ (H1 : Heap), lB s H1 (cs ++ [co D ci' V0]) → va_S (lA s) s.heap H1 locs → W p l e R s m args below meth c H1 locs (cells + 1) (slots + N) Q (F0 m (pc + 3) ls (.ref (s.heap.size + cs.length) :: rest))) : W p l e R s m args below meth c H locs cells slots Q (F0 m pc ls rest) := by
  obtain ⟨ty0, hin, -, -, -⟩ := sx_cls hc
  have hKn := hK.1.1 ci' _ hc
  refine W.newcK hx hb hown (hts _ w1) (hts _ w2) (hts _ w3) rfl hdg hc1 hc2 hKn.2.1 rfl fun H1 kC hkC e1 z1 o1 => ?_
  have kk' := kk H1 (hcs.pushed z1 o1 ?_) (lB_S hS0 z1 o1)
  · rw [← hcs.1] at kk'
    exact kk'
  obtain ⟨cell, g1, g2, g3, g4⟩ := u_born ty hts hin hKn hkC e1 hty
  exact ⟨_, hc, cell, g1, g2, g3, fun k hk => (g4 k hk).trans (congrArg some (hV k hk))⟩
/-- the constructor of the object that was made last -/
theorem lw_init (hx : p.tables.exec = Jvm.exec) (hb : c.code = cc) {own : String} {y : MethodName} {b : ByteArray} {ml nL ci' index mc ms : Nat} {rm : Room} {V0 V1 : Nat → Value} {cs K : List (Option Cell → Prop)} (hml : c.maxLocals = nL) (hown : s.vm.findClass own = some m.cls) (hts : ∀ w ∈ sx_tb, w.before args s = true) (hK : cK D cI cJ cZ s)
    (hM : Met l y (cws y b ml) rm (cPc D cI cJ cZ ci' (s.heap.size + cs.length) (s.heap.size + cs.length + 1) V0 []) (cQc D ci' (s.heap.size + cs.length) (s.heap.size + cs.length + 1) V1 K) mc ms (cA (s.heap.size + cs.length) (s.heap.size + cs.length + 1)))
    (w1 : Cond.code y b ml none ∈ sx_tb) (w2 : Cond.initialized y.cls ∈ sx_tb) (w3 : Cond.methodLink own index y ∈ sx_tb) (w4 : Cond.instanceMethod y ∈ sx_tb) (hy : y.name = "<init>") (hrc : rm.cells = mc) (hrs : rm.slots = ms) (hyc : y.cls ≠ "java/lang/invoke/MethodHandle" ∧ y.cls ≠ "java/lang/invoke/VarHandle" ∧ (parseMethodDescriptor y.desc).map (fun d => d.parameters.length) = some 0) (hrm : rm.frames + 1 ≤ R.frames ∧ 8 + (ml + 11) + rm.locals ≤ R.locals)
    (hls : ls.size = nL) (hr8 : (rest.map fun v => v.category).sum ≤ 8) (hf : cells + mc ≤ R.cells ∧ slots + ms ≤ R.slots)
    (hcs : lB s H (cs ++ [co D ci' V0])) (hS0 : va_S (lA s) s.heap H locs) (hdg : decode cc pc = .ok (.invokespecial index, 3))
    (kk : ∀ (H1 : Heap) (locs1 : List Loc), lB s H1 (cs ++ (co D ci' V1 :: K)) → va_S (lA s) s.heap H1 locs1 → W p l e R s m args below meth c H1 locs1 (cells + mc) (slots + ms) Q (F0 m (pc + 3) ls rest)) : W p l e R s m args below meth c H locs cells slots Q (F0 m pc ls (.ref (s.heap.size + cs.length) :: rest)) := by
  have hlen : H.size = s.heap.size + cs.length + 1 := by rw [hcs.1, List.length_append]; rfl
  have hgood : GoodIn sx_tb (cws y b ml) := fun w hw => by
    rcases List.mem_cons.mp hw with rfl | hw
    · exact ⟨w1, sx_tb_good w1⟩
    · exact ⟨hw, sx_tb_good hw⟩
  have hpre : PreS s H (cPc D cI cJ cZ ci' (s.heap.size + cs.length) (s.heap.size + cs.length + 1) V0 []) [.ref (s.heap.size + cs.length)] := ⟨cPc_blind, fun U hU hW => ⟨rfl, by rw [hU]; exact hlen, Nat.lt_succ_self _, cK_warm hW hK, by rw [hU]; exact hcs.2 cs.length _ app_last⟩⟩
  have hB := callB_of (R := R) (mc := mc) (ms := ms) (rm := rm) (own := own) (index := index) 0 hts hgood rfl hrc hrs (hts _ w2) (hts _ w3) hyc hrm
  have hr := va_runI (e := e) (below := below) (meth := meth) (locs := locs) (As := []) (b := s.heap.size + cs.length) (rest := rest) (g := F0 m pc ls (.ref (s.heap.size + cs.length) :: rest)) ⟨hx, hb, hml, hown, hts⟩ hM ⟨hB, hy, hts _ w4⟩ hpre rfl rfl hls rfl (by show 2 * 0 + _ ≤ 8; omega) hdg hf
  intro T hT X
  obtain ⟨v, st₀, t, T', L, h0', X', hL, e1, e2, ⟨⟨hv, z1, o1, o2⟩, hz, hk⟩, st⟩ := hr T hT X
  cases hv
  rw [h0'] at hz hk
  rw [← e1] at z1 o1 o2 hz hk
  obtain ⟨a1, a3⟩ := hcs
  have hold : ∀ q, q < s.heap.size + cs.length → T'.heap[q]? = H[q]? := fun q hq => hk q (by omega) (fun z => by unfold cA at z; omega)
  have hcs1 : lB s T'.heap (cs ++ (co D ci' V1 :: K)) := by
    refine ⟨by rw [z1, List.length_append, List.length_cons]; omega, fun i P hi => ?_⟩
    rcases Nat.lt_trichotomy i cs.length with q | q | q
    · rw [hold _ (by omega)]
      rw [List.getElem?_append_left q] at hi
      exact a3 i P (by rw [List.getElem?_append_left q]; exact hi)
    · subst q
      rw [List.getElem?_append_right (Nat.le_refl _), Nat.sub_self] at hi
      cases hi
      exact o1
    · obtain ⟨d, rfl⟩ : ∃ d, i = cs.length + 1 + d := ⟨i - (cs.length + 1), by omega⟩
      rw [List.getElem?_append_right (by omega), show cs.length + 1 + d - cs.length = d + 1 by omega, List.getElem?_cons_succ] at hi
      rw [show s.heap.size + (cs.length + 1 + d) = s.heap.size + cs.length + 1 + d by omega]
      exact o2 d P hi
  have hS1 : va_S (lA s) s.heap T'.heap (locs ++ L) := by
    refine ⟨Nat.le_trans hS0.1 hz, fun q h1 h2 => ?_, fun q hq => ?_⟩
    · rw [hold q (by omega)]
      exact hS0.2.1 q h1 h2
    · rcases List.mem_append.mp hq with h1 | h1
      · exact hS0.2.2 q h1
      · have := hL q h1
        unfold cA at this
        show s.heap.size ≤ q.base
        omega
  obtain ⟨t2, b1, b2⟩ := kk T'.heap (locs ++ L) hcs1 hS1 T' rfl X'
  exact ⟨t2, st t2 b1, b2⟩
end LWO
