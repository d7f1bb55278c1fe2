-- THE HELPERS
section HPS
theorem hp_ofW {l : Launch} {y : MethodName} {b : ByteArray} {ml : Nat} {hd : List (Nat × Nat × Nat × Nat)} {rm : Room} {Pc : Array Value → State → Prop} {Qc : Array Value → State → Outcome → State → Prop} {mc ms : Nat} {free : Addr → Prop} (hy : plainName y.cls = true)
    (body : ∀ p e s m args below meth c s₁, BodyLoose p l y (headSpec (.codeWith y b ml (some .int) hd :: sx_tb) rm) b ml (some .int) e s m args below meth c s₁ → c.maxLocals = ml → c.exceptionTable.toList = tableOf hd → Pc args s → W p l e rm s m args below meth c s.heap [] 0 0 (MQ below Qc args s mc ms free) (entryFrame m args ml)) :
    Met l y (.codeWith y b ml (some .int) hd :: sx_tb) rm Pc Qc mc ms free := by
  refine MetFree.of_bodyS (code := b) (maxLocals := ml) (ret := some .int) hy ?_ ?_
  · intro args s m h hn
    obtain ⟨m', meth, c, h0, h1, h2, h3, h4, h5, h6, h7, -⟩ := Cond.codeWith_spec (atoms_spec (ws := .codeWith y b ml (some .int) hd :: sx_tb) h _ List.mem_cons_self)
    cases hn.symm.trans h0
    exact ⟨meth, c, h1, h2, h3, h4, h6, h7⟩
  · intro p e s m args below meth c s₁ B hml hP _
    have hh0 : s₁.heap = s.heap := by rw [B.state]; rfl
    have X := Stand.of_body B
    obtain ⟨m', meth', c', h0, h1, h2, h3, h4, h5, h6, h7, -⟩ := Cond.codeWith_spec (atoms_spec (ws := .codeWith y b ml (some .int) hd :: sx_tb) B.pre _ List.mem_cons_self)
    cases B.named.symm.trans h0
    cases B.method.symm.trans h1
    cases X.code.symm.trans h2
    obtain ⟨t, a1, o, b1, b2, b3⟩ := body p e s m args below meth c s₁ B hml (by rw [← h5, table_eq]) hP s₁ hh0 X
    exact ⟨t, o, a1, b1, b2, ⟨b3.1, b3.2⟩⟩
theorem hp_own (K : Nat) (h : K < 3) : Cond.castable (sx_exc K) (sx_exc K) ∈ sx_oa K := by
  unfold sx_oa
  simp
theorem hp_fit {s : State} {args : Array Value} {K : Nat} (hK : K < 3) (hts : ∀ w ∈ sx_tb, w.before args s = true) (ht : tU s) {ce : Cell} (g2 : s.vm.findClass (sx_exc K) = some ce.cls) : (∃ k, s.vm.classes[ce.cls]? = some k) ∧ ∀ cc, s.vm.findClass (sx_exc K) = some cc → s.vm.assignable ce.cls cc = true := by
  obtain ⟨cC, kC, hfc, hk, -⟩ := Cond.instantiable_spec (hts _ (sx_xk hK).2.1)
  have e1 : cC = ce.cls := Option.some.inj (hfc.symm.trans g2)
  subst e1
  refine ⟨⟨kC, hk⟩, fun cc hcc => ?_⟩
  obtain ⟨c1, c2, q1, q2, q3⟩ := Cond.castable_spec (ht.1.1 K hK _ (hp_own K hK))
  have e2 : c1 = ce.cls := Option.some.inj (q1.symm.trans g2)
  have e3 : c2 = cc := Option.some.inj (q2.symm.trans hcc)
  rw [← e2, ← e3]
  exact q3
theorem hp_no {s : State} {ce : Cell} (ht : tU s) (g2 : s.vm.findClass (sx_exc 1) = some ce.cls) : ∀ cc, s.vm.findClass (sx_exc 0) = some cc → s.vm.assignable ce.cls cc = false := fun cc hcc => by
  have h := ht.2
  unfold nc at h
  have g2' : s.vm.findClass "java/lang/IllegalStateException" = some ce.cls := g2
  have hcc' : s.vm.findClass "java/lang/IllegalArgumentException" = some cc := hcc
  simp only [Cond.before, Cond.holds, Cond.value, g2', hcc'] at h
  cases hh : s.vm.assignable ce.cls cc with
  | false => rfl
  | true => rw [hh] at h; simp at h
/-- the long is put into the law's row of one -/
theorem hp_last {p : Program} {l : Launch} {e : Env} {R : Room} {s : State} {m : MethodId} {args : Array Value} {below : List Frame} {meth : Method} {c : Code} {H : Heap} {locs : List Loc} {cells slots : Nat} {Q0 : State → Prop} {D : va_G} {cI cJ cZ : ClassId} {r : Nat → Nat} {h : sx_H} {pc : Nat} {ls : Array Slot} {rest : List Value} {cc : ByteArray} {z : Int64} (hx : p.tables.exec = Jvm.exec) (hb : c.code = cc) (hinj : sx_inj r sx_w s.heap.size) (hK : sx_K D cI cJ cZ s) (hP : sx_P D cI cJ cZ r sx_w h H) (hS : va_S (sx_A r sx_w s.heap.size) s.heap H locs) (hdg : decode cc pc = .ok (.lastore, 1))
    (kk : ∀ (H1 : Heap) (locs1 : List Loc), sx_P D cI cJ cZ r sx_w (h.1, sx_u h.2.1 39 0 z, h.2.2) H1 → va_S (sx_A r sx_w s.heap.size) s.heap H1 locs1 → W p l e R s m args below meth c H1 locs1 cells slots Q0 (F0 m (pc + 1) ls rest)) : W p l e R s m args below meth c H locs cells slots Q0 (F0 m pc ls (.long z :: .int 0 :: .ref (r 39) :: rest)) := by
  refine W.last hx hb (sx_at_l (hP 39) rfl) (sx_arrJ hK _ _) (fun q => by cases q) (sx_within (vp_in_nI (n := 0) (by decide) (by decide))) rfl rfl hdg fun H1 e1 z' oq => ?_
  obtain ⟨hp, hs⟩ := sx_astW (k := Int32.toNatClampNeg 0) (h' := (h.1, sx_u h.2.1 39 0 z, h.2.2)) hinj hP hS rfl (by decide) z' oq (fun b hb => ⟨rfl, sx_u_ne hb, rfl⟩) (sx_at_lI rfl (by
    rw [e1, arrV_store]
    congr 2
    funext q
    show updV _ 0 _ q = Value.long (sx_u h.2.1 39 0 z 39 q)
    rw [sx_u_eq]
    unfold updV va_up
    split <;> rfl))
  exact kk H1 _ hp hs
abbrev hrm : Room := { frames := 9, cells := 1, slots := 6, locals := 323 }
def yh_feed : MethodName := ⟨"GateTextLaw", "feed", "(LGateText;IJ[J)I"⟩
theorem wh_feed : Cond.codeWith yh_feed method_3_code 6 (some .int) [(0, 11, 14, 13), (0, 11, 18, 15)] ∈ sx_tb := sx_in_mem (i := 552) (by decide +kernel)
set_option maxHeartbeats 4000000 in
set_option maxRecDepth 100000 in
theorem h_feed (l : Launch) (hfl : l.flags = pinnedFlags ++ [noTraceFlag]) (D : va_G) (cI cJ cZ : ClassId) (r : Nat → Nat) (h : sx_H) (sz : Nat) {x : Int32} {y : Int64} {Q : sx_Q}
    (HX : sx_X sx_w 61 0 [some (.ref 0), some (.int x), some (.long y), none, none] [] h (sx_qi fun z h' => Q (some (.int 0)) (h'.1, sx_u h'.2.1 39 0 z.toInt64, h'.2.2)) ∨ (sx_X sx_r 61 0 [some (.ref 0), some (.int x), some (.long y), none, none] [] h (sx_qt 0 h) ∧ Q (some (.int 1)) h) ∨ (sx_X sx_r 61 0 [some (.ref 0), some (.int x), some (.long y), none, none] [] h (sx_qt 1 h) ∧ Q (some (.int 2)) h)) :
    Met l yh_feed (.codeWith yh_feed method_3_code 6 (some .int) [(0, 11, 14, 13), (0, 11, 18, 15)] :: sx_tb) hrm (hPc D cI cJ cZ r h sz [.ref 0, .int x, .long y, .ref 39]) (sx_Qc D cI cJ cZ r sx_w Q) 1 6 (sx_A r sx_w sz) := by
  refine hp_ofW (by decide) ?_
  intro p e s m args below meth c s₁ B hml htab hv
  obtain ⟨rfl, rfl, hinj, hK, hP, ht⟩ := hv
  have hx := B.exec
  have hb := B.bytes
  have hr := B.returns
  have hts' := atoms_spec (ws := .codeWith yh_feed method_3_code 6 (some .int) [(0, 11, 14, 13), (0, 11, 18, 15)] :: sx_tb) B.pre
  have hts : ∀ w ∈ sx_tb, w.before _ s = true := fun w hw => hts' w (List.mem_cons_of_mem _ hw)
  have hown : s.vm.findClass "GateTextLaw" = some m.cls := findClass_of_methodNamed B.named
  have hpl : e.platform.magicAccessors = ({} : Platform).magicAccessors := by rw [B.admits.platform]
  have hS : va_S (sx_A r sx_w s.heap.size) s.heap s.heap [] := va_S.rf
  have hl := lv_entry ([.ref (r 0), .int x, .long y, .ref (r 39)]) (n := 6) (Nat.le_of_ble_eq_true rfl)
  show W p l e hrm s m _ below meth c s.heap [] 0 0 _ (entryFrame m ([.ref (r 0), .int x, .long y, .ref (r 39)] : List Value).toArray 6)
  rw [lg_entry_eq]
  generalize (lg_sl ([.ref (r 0), .int x, .long y, .ref (r 39)]) ++ List.replicate (6 - (lg_sl ([.ref (r 0), .int x, .long y, .ref (r 39)])).length) Slot.unset).toArray = ls at hl ⊢
  have hl : lv_has ls 6 [(0, .ref (r 0)), (1, .int x), (2, .long y), (4, .ref (r 39))] := hl
  refine lv_aload hx hb (i := 4) (by decide +kernel) (lv_at hl 3 rfl) ?_
  refine lv_iconst (n := 0) (v := 0) hx hb (by decide +kernel) (by decide) ?_
  refine lv_aload_n hx hb (k := 0) (by decide +kernel) rfl (lv_at hl 0 rfl) ?_
  refine lv_iload_n hx hb (k := 1) (by decide +kernel) rfl (lv_at hl 1 rfl) ?_
  refine lv_lload_n hx hb (k := 2) (by decide +kernel) rfl (lv_at hl 2 rfl) ?_
  rcases HX with HX | ⟨HX, hq⟩ | ⟨HX, hq⟩
  · refine hp_call (sh := sx_w) (j := 61) (index := 7) (own := "GateTextLaw") (av := [.int x, .long y]) (rest := [.int 0, .ref (r 39)]) rfl hx hb hown hts (by decide) (by decide +kernel) (Nat.le_of_ble_eq_true rfl) (sx_sound (sx_newOk_w l rfl) HX) (sx_in_mem (i := 555) (by decide +kernel)) (by decide +kernel) (by decide +kernel) (sx_in_mem (i := 557) (by decide +kernel)) (show (parseMethodDescriptor (sx_y 61).desc).map (fun d => d.parameters.length) = some 2 by decide +kernel) (by decide +kernel) (by decide +kernel) (Nat.le_of_ble_eq_true rfl) (Nat.le_of_ble_eq_true rfl) hinj hK hP hS ht rfl (by rw [hml]; exact hl.1) (Nat.le_of_ble_eq_true rfl) (by decide +kernel) (fun v h' H1 locs1 hq hP' hS' => ?_) (fun k h' a ce hq => absurd hq (fun z => z))
    obtain ⟨hq, -⟩ := hq
    cases v with
    | none => exact hq.elim
    | some v =>
      cases v with
      | int z =>
        refine W.eq (g2 := F0 m 9 ls [.int z, .int 0, .ref (r 39)]) rfl ?_
        refine lv_i2l (v := z.toInt64) hx hb (by decide +kernel) rfl ?_
        refine hp_last hx hb hinj hK hP' hS' (by decide +kernel) (fun H1 locs1 hp hs => ?_)
        refine lv_goto (off := 11) (tgt := 22) hx hb (by decide +kernel) (by decide) ?_
        refine lv_iconst (n := 0) (v := 0) hx hb (by decide +kernel) (by decide) ?_
        exact W.iret (v := 0) hx hb hr (fun t ht hW => ⟨⟨some (.int 0), _, hq, rfl, by rw [ht]; exact hp, fun k q => by cases q⟩, hs.F ht⟩) hs.2.2 (by decide +kernel)
      | _ => exact hq.elim
  · refine hp_call (sh := sx_r) (j := 61) (index := 7) (own := "GateTextLaw") (av := [.int x, .long y]) (rest := [.int 0, .ref (r 39)]) rfl hx hb hown hts (by decide) (by decide +kernel) (Nat.le_of_ble_eq_true rfl) (sx_sound (sx_newOk_t hfl sx_r) HX) (sx_in_mem (i := 555) (by decide +kernel)) (by decide +kernel) (by decide +kernel) (sx_in_mem (i := 557) (by decide +kernel)) (show (parseMethodDescriptor (sx_y 61).desc).map (fun d => d.parameters.length) = some 2 by decide +kernel) (by decide +kernel) (by decide +kernel) (Nat.le_of_ble_eq_true rfl) (Nat.le_of_ble_eq_true rfl) hinj hK hP hS ht rfl (by rw [hml]; exact hl.1) (Nat.le_of_ble_eq_true rfl) (by decide +kernel) (fun v h' H1 locs1 hz hP' hS' => absurd hz.1.1 (hz.2 0)) (fun k h' a ce hz g2 g3 => ?_)
    obtain ⟨e1, e2⟩ := hz
    cases e1
    subst e2
    obtain ⟨hk, hfit⟩ := hp_fit (by decide) hts ht g2
    refine ⟨14, fun S hW hcell => ?_, fun H1 hP1 hS1 => ?_⟩
    · rw [htab]
      exact cx_hit (x := ⟨0, 11, 14, 13⟩) hpl hown (hts (.classLink "GateTextLaw" 13 (sx_exc 0)) (sx_in_mem (i := 553) (by decide +kernel))) rfl (by decide) hW hcell g3 hk hfit
    · refine lv_astore (lv' := [(5, .ref a), (0, .ref (r 0)), (1, .int x), (2, .long y), (4, .ref (r 39))]) hx hb (i := 5) (by decide +kernel) hl (by decide) rfl (fun ls hl => ?_)
      refine lv_iconst (n := 1) (v := 1) hx hb (by decide +kernel) (by decide) ?_
      exact W.iret (v := 1) hx hb hr (fun t ht hW => ⟨⟨some (.int 1), _, hq, rfl, by rw [ht]; exact hP1, fun k q => by cases q⟩, hS1.F ht⟩) hS1.2.2 (by decide +kernel)
  · refine hp_call (sh := sx_r) (j := 61) (index := 7) (own := "GateTextLaw") (av := [.int x, .long y]) (rest := [.int 0, .ref (r 39)]) rfl hx hb hown hts (by decide) (by decide +kernel) (Nat.le_of_ble_eq_true rfl) (sx_sound (sx_newOk_t hfl sx_r) HX) (sx_in_mem (i := 555) (by decide +kernel)) (by decide +kernel) (by decide +kernel) (sx_in_mem (i := 557) (by decide +kernel)) (show (parseMethodDescriptor (sx_y 61).desc).map (fun d => d.parameters.length) = some 2 by decide +kernel) (by decide +kernel) (by decide +kernel) (Nat.le_of_ble_eq_true rfl) (Nat.le_of_ble_eq_true rfl) hinj hK hP hS ht rfl (by rw [hml]; exact hl.1) (Nat.le_of_ble_eq_true rfl) (by decide +kernel) (fun v h' H1 locs1 hz hP' hS' => absurd hz.1.1 (hz.2 1)) (fun k h' a ce hz g2 g3 => ?_)
    obtain ⟨e1, e2⟩ := hz
    cases e1
    subst e2
    obtain ⟨hk, hfit⟩ := hp_fit (by decide) hts ht g2
    refine ⟨18, fun S hW hcell => ?_, fun H1 hP1 hS1 => ?_⟩
    · rw [htab]
      exact cx_pass (x := ⟨0, 11, 14, 13⟩) hpl hown (hts (.classLink "GateTextLaw" 13 (sx_exc 0)) (sx_in_mem (i := 553) (by decide +kernel))) rfl (by decide) hW hcell g3 hk (hp_no ht g2) (fun S' hW' hh => cx_hit (x := ⟨0, 11, 18, 15⟩) hpl hown (hts (.classLink "GateTextLaw" 15 (sx_exc 1)) (sx_in_mem (i := 554) (by decide +kernel))) rfl (by decide) hW' (by rw [hh]; exact hcell) g3 hk hfit)
    · refine lv_astore (lv' := [(5, .ref a), (0, .ref (r 0)), (1, .int x), (2, .long y), (4, .ref (r 39))]) hx hb (i := 5) (by decide +kernel) hl (by decide) rfl (fun ls hl => ?_)
      refine lv_iconst (n := 2) (v := 2) hx hb (by decide +kernel) (by decide) ?_
      exact W.iret (v := 2) hx hb hr (fun t ht hW => ⟨⟨some (.int 2), _, hq, rfl, by rw [ht]; exact hP1, fun k q => by cases q⟩, hS1.F ht⟩) hS1.2.2 (by decide +kernel)
def yh_value : MethodName := ⟨"GateTextLaw", "value", "(LGateText;II[J)I"⟩
theorem wh_value : Cond.codeWith yh_value method_4_code 5 (some .int) [(0, 10, 13, 13)] ∈ sx_tb := sx_in_mem (i := 646) (by decide +kernel)
set_option maxHeartbeats 4000000 in
set_option maxRecDepth 100000 in
theorem h_value (l : Launch) (hfl : l.flags = pinnedFlags ++ [noTraceFlag]) (D : va_G) (cI cJ cZ : ClassId) (r : Nat → Nat) (h : sx_H) (sz : Nat) {x : Int32} {y : Int32} {Q : sx_Q}
    (HX : sx_X sx_w 63 0 [some (.ref 0), some (.int x), some (.int y), none] [] h (sx_qi fun z h' => Q (some (.int 0)) (h'.1, sx_u h'.2.1 39 0 z.toInt64, h'.2.2)) ∨ (sx_X sx_r 63 0 [some (.ref 0), some (.int x), some (.int y), none] [] h (sx_qt 0 h) ∧ Q (some (.int 1)) h)) :
    Met l yh_value (.codeWith yh_value method_4_code 5 (some .int) [(0, 10, 13, 13)] :: sx_tb) hrm (hPc D cI cJ cZ r h sz [.ref 0, .int x, .int y, .ref 39]) (sx_Qc D cI cJ cZ r sx_w Q) 1 6 (sx_A r sx_w sz) := by
  refine hp_ofW (by decide) ?_
  intro p e s m args below meth c s₁ B hml htab hv
  obtain ⟨rfl, rfl, hinj, hK, hP, ht⟩ := hv
  have hx := B.exec
  have hb := B.bytes
  have hr := B.returns
  have hts' := atoms_spec (ws := .codeWith yh_value method_4_code 5 (some .int) [(0, 10, 13, 13)] :: sx_tb) B.pre
  have hts : ∀ w ∈ sx_tb, w.before _ s = true := fun w hw => hts' w (List.mem_cons_of_mem _ hw)
  have hown : s.vm.findClass "GateTextLaw" = some m.cls := findClass_of_methodNamed B.named
  have hpl : e.platform.magicAccessors = ({} : Platform).magicAccessors := by rw [B.admits.platform]
  have hS : va_S (sx_A r sx_w s.heap.size) s.heap s.heap [] := va_S.rf
  have hl := lv_entry ([.ref (r 0), .int x, .int y, .ref (r 39)]) (n := 5) (Nat.le_of_ble_eq_true rfl)
  show W p l e hrm s m _ below meth c s.heap [] 0 0 _ (entryFrame m ([.ref (r 0), .int x, .int y, .ref (r 39)] : List Value).toArray 5)
  rw [lg_entry_eq]
  generalize (lg_sl ([.ref (r 0), .int x, .int y, .ref (r 39)]) ++ List.replicate (5 - (lg_sl ([.ref (r 0), .int x, .int y, .ref (r 39)])).length) Slot.unset).toArray = ls at hl ⊢
  have hl : lv_has ls 5 [(0, .ref (r 0)), (1, .int x), (2, .int y), (3, .ref (r 39))] := hl
  refine lv_aload_n hx hb (k := 3) (by decide +kernel) rfl (lv_at hl 3 rfl) ?_
  refine lv_iconst (n := 0) (v := 0) hx hb (by decide +kernel) (by decide) ?_
  refine lv_aload_n hx hb (k := 0) (by decide +kernel) rfl (lv_at hl 0 rfl) ?_
  refine lv_iload_n hx hb (k := 1) (by decide +kernel) rfl (lv_at hl 1 rfl) ?_
  refine lv_iload_n hx hb (k := 2) (by decide +kernel) rfl (lv_at hl 2 rfl) ?_
  rcases HX with HX | ⟨HX, hq⟩
  · refine hp_call (sh := sx_w) (j := 63) (index := 17) (own := "GateTextLaw") (av := [.int x, .int y]) (rest := [.int 0, .ref (r 39)]) rfl hx hb hown hts (by decide) (by decide +kernel) (Nat.le_of_ble_eq_true rfl) (sx_sound (sx_newOk_w l rfl) HX) (sx_in_mem (i := 647) (by decide +kernel)) (by decide +kernel) (by decide +kernel) (sx_in_mem (i := 649) (by decide +kernel)) (show (parseMethodDescriptor (sx_y 63).desc).map (fun d => d.parameters.length) = some 2 by decide +kernel) (by decide +kernel) (by decide +kernel) (Nat.le_of_ble_eq_true rfl) (Nat.le_of_ble_eq_true rfl) hinj hK hP hS ht rfl (by rw [hml]; exact hl.1) (Nat.le_of_ble_eq_true rfl) (by decide +kernel) (fun v h' H1 locs1 hq hP' hS' => ?_) (fun k h' a ce hq => absurd hq (fun z => z))
    obtain ⟨hq, -⟩ := hq
    cases v with
    | none => exact hq.elim
    | some v =>
      cases v with
      | int z =>
        refine W.eq (g2 := F0 m 8 ls [.int z, .int 0, .ref (r 39)]) rfl ?_
        refine lv_i2l (v := z.toInt64) hx hb (by decide +kernel) rfl ?_
        refine hp_last hx hb hinj hK hP' hS' (by decide +kernel) (fun H1 locs1 hp hs => ?_)
        refine lv_goto (off := 7) (tgt := 17) hx hb (by decide +kernel) (by decide) ?_
        refine lv_iconst (n := 0) (v := 0) hx hb (by decide +kernel) (by decide) ?_
        exact W.iret (v := 0) hx hb hr (fun t ht hW => ⟨⟨some (.int 0), _, hq, rfl, by rw [ht]; exact hp, fun k q => by cases q⟩, hs.F ht⟩) hs.2.2 (by decide +kernel)
      | _ => exact hq.elim
  · refine hp_call (sh := sx_r) (j := 63) (index := 17) (own := "GateTextLaw") (av := [.int x, .int y]) (rest := [.int 0, .ref (r 39)]) rfl hx hb hown hts (by decide) (by decide +kernel) (Nat.le_of_ble_eq_true rfl) (sx_sound (sx_newOk_t hfl sx_r) HX) (sx_in_mem (i := 647) (by decide +kernel)) (by decide +kernel) (by decide +kernel) (sx_in_mem (i := 649) (by decide +kernel)) (show (parseMethodDescriptor (sx_y 63).desc).map (fun d => d.parameters.length) = some 2 by decide +kernel) (by decide +kernel) (by decide +kernel) (Nat.le_of_ble_eq_true rfl) (Nat.le_of_ble_eq_true rfl) hinj hK hP hS ht rfl (by rw [hml]; exact hl.1) (Nat.le_of_ble_eq_true rfl) (by decide +kernel) (fun v h' H1 locs1 hz hP' hS' => absurd hz.1.1 (hz.2 0)) (fun k h' a ce hz g2 g3 => ?_)
    obtain ⟨e1, e2⟩ := hz
    cases e1
    subst e2
    obtain ⟨hk, hfit⟩ := hp_fit (by decide) hts ht g2
    refine ⟨13, fun S hW hcell => ?_, fun H1 hP1 hS1 => ?_⟩
    · rw [htab]
      exact cx_hit (x := ⟨0, 10, 13, 13⟩) hpl hown (hts (.classLink "GateTextLaw" 13 (sx_exc 0)) (sx_in_mem (i := 553) (by decide +kernel))) rfl (by decide) hW hcell g3 hk hfit
    · refine lv_astore (lv' := [(4, .ref a), (0, .ref (r 0)), (1, .int x), (2, .int y), (3, .ref (r 39))]) hx hb (i := 4) (by decide +kernel) hl (by decide) rfl (fun ls hl => ?_)
      refine lv_iconst (n := 1) (v := 1) hx hb (by decide +kernel) (by decide) ?_
      exact W.iret (v := 1) hx hb hr (fun t ht hW => ⟨⟨some (.int 1), _, hq, rfl, by rw [ht]; exact hP1, fun k q => by cases q⟩, hS1.F ht⟩) hS1.2.2 (by decide +kernel)
def yh_outputs : MethodName := ⟨"GateTextLaw", "outputs", "(LGateText;I[J)I"⟩
theorem wh_outputs : Cond.codeWith yh_outputs method_5_code 4 (some .int) [(0, 9, 12, 13)] ∈ sx_tb := sx_in_mem (i := 669) (by decide +kernel)
set_option maxHeartbeats 4000000 in
set_option maxRecDepth 100000 in
theorem h_outputs (l : Launch) (hfl : l.flags = pinnedFlags ++ [noTraceFlag]) (D : va_G) (cI cJ cZ : ClassId) (r : Nat → Nat) (h : sx_H) (sz : Nat) {x : Int32} {Q : sx_Q}
    (HX : sx_X sx_w 64 0 [some (.ref 0), some (.int x), none, none] [] h (sx_qi fun z h' => Q (some (.int 0)) (h'.1, sx_u h'.2.1 39 0 z.toInt64, h'.2.2)) ∨ (sx_X sx_r 64 0 [some (.ref 0), some (.int x), none, none] [] h (sx_qt 0 h) ∧ Q (some (.int 1)) h)) :
    Met l yh_outputs (.codeWith yh_outputs method_5_code 4 (some .int) [(0, 9, 12, 13)] :: sx_tb) hrm (hPc D cI cJ cZ r h sz [.ref 0, .int x, .ref 39]) (sx_Qc D cI cJ cZ r sx_w Q) 1 6 (sx_A r sx_w sz) := by
  refine hp_ofW (by decide) ?_
  intro p e s m args below meth c s₁ B hml htab hv
  obtain ⟨rfl, rfl, hinj, hK, hP, ht⟩ := hv
  have hx := B.exec
  have hb := B.bytes
  have hr := B.returns
  have hts' := atoms_spec (ws := .codeWith yh_outputs method_5_code 4 (some .int) [(0, 9, 12, 13)] :: sx_tb) B.pre
  have hts : ∀ w ∈ sx_tb, w.before _ s = true := fun w hw => hts' w (List.mem_cons_of_mem _ hw)
  have hown : s.vm.findClass "GateTextLaw" = some m.cls := findClass_of_methodNamed B.named
  have hpl : e.platform.magicAccessors = ({} : Platform).magicAccessors := by rw [B.admits.platform]
  have hS : va_S (sx_A r sx_w s.heap.size) s.heap s.heap [] := va_S.rf
  have hl := lv_entry ([.ref (r 0), .int x, .ref (r 39)]) (n := 4) (Nat.le_of_ble_eq_true rfl)
  show W p l e hrm s m _ below meth c s.heap [] 0 0 _ (entryFrame m ([.ref (r 0), .int x, .ref (r 39)] : List Value).toArray 4)
  rw [lg_entry_eq]
  generalize (lg_sl ([.ref (r 0), .int x, .ref (r 39)]) ++ List.replicate (4 - (lg_sl ([.ref (r 0), .int x, .ref (r 39)])).length) Slot.unset).toArray = ls at hl ⊢
  have hl : lv_has ls 4 [(0, .ref (r 0)), (1, .int x), (2, .ref (r 39))] := hl
  refine lv_aload_n hx hb (k := 2) (by decide +kernel) rfl (lv_at hl 2 rfl) ?_
  refine lv_iconst (n := 0) (v := 0) hx hb (by decide +kernel) (by decide) ?_
  refine lv_aload_n hx hb (k := 0) (by decide +kernel) rfl (lv_at hl 0 rfl) ?_
  refine lv_iload_n hx hb (k := 1) (by decide +kernel) rfl (lv_at hl 1 rfl) ?_
  rcases HX with HX | ⟨HX, hq⟩
  · refine hp_call (sh := sx_w) (j := 64) (index := 21) (own := "GateTextLaw") (av := [.int x]) (rest := [.int 0, .ref (r 39)]) rfl hx hb hown hts (by decide) (by decide +kernel) (Nat.le_of_ble_eq_true rfl) (sx_sound (sx_newOk_w l rfl) HX) (sx_in_mem (i := 670) (by decide +kernel)) (by decide +kernel) (by decide +kernel) (sx_in_mem (i := 672) (by decide +kernel)) (show (parseMethodDescriptor (sx_y 64).desc).map (fun d => d.parameters.length) = some 1 by decide +kernel) (by decide +kernel) (by decide +kernel) (Nat.le_of_ble_eq_true rfl) (Nat.le_of_ble_eq_true rfl) hinj hK hP hS ht rfl (by rw [hml]; exact hl.1) (Nat.le_of_ble_eq_true rfl) (by decide +kernel) (fun v h' H1 locs1 hq hP' hS' => ?_) (fun k h' a ce hq => absurd hq (fun z => z))
    obtain ⟨hq, -⟩ := hq
    cases v with
    | none => exact hq.elim
    | some v =>
      cases v with
      | int z =>
        refine W.eq (g2 := F0 m 7 ls [.int z, .int 0, .ref (r 39)]) rfl ?_
        refine lv_i2l (v := z.toInt64) hx hb (by decide +kernel) rfl ?_
        refine hp_last hx hb hinj hK hP' hS' (by decide +kernel) (fun H1 locs1 hp hs => ?_)
        refine lv_goto (off := 6) (tgt := 15) hx hb (by decide +kernel) (by decide) ?_
        refine lv_iconst (n := 0) (v := 0) hx hb (by decide +kernel) (by decide) ?_
        exact W.iret (v := 0) hx hb hr (fun t ht hW => ⟨⟨some (.int 0), _, hq, rfl, by rw [ht]; exact hp, fun k q => by cases q⟩, hs.F ht⟩) hs.2.2 (by decide +kernel)
      | _ => exact hq.elim
  · refine hp_call (sh := sx_r) (j := 64) (index := 21) (own := "GateTextLaw") (av := [.int x]) (rest := [.int 0, .ref (r 39)]) rfl hx hb hown hts (by decide) (by decide +kernel) (Nat.le_of_ble_eq_true rfl) (sx_sound (sx_newOk_t hfl sx_r) HX) (sx_in_mem (i := 670) (by decide +kernel)) (by decide +kernel) (by decide +kernel) (sx_in_mem (i := 672) (by decide +kernel)) (show (parseMethodDescriptor (sx_y 64).desc).map (fun d => d.parameters.length) = some 1 by decide +kernel) (by decide +kernel) (by decide +kernel) (Nat.le_of_ble_eq_true rfl) (Nat.le_of_ble_eq_true rfl) hinj hK hP hS ht rfl (by rw [hml]; exact hl.1) (Nat.le_of_ble_eq_true rfl) (by decide +kernel) (fun v h' H1 locs1 hz hP' hS' => absurd hz.1.1 (hz.2 0)) (fun k h' a ce hz g2 g3 => ?_)
    obtain ⟨e1, e2⟩ := hz
    cases e1
    subst e2
    obtain ⟨hk, hfit⟩ := hp_fit (by decide) hts ht g2
    refine ⟨12, fun S hW hcell => ?_, fun H1 hP1 hS1 => ?_⟩
    · rw [htab]
      exact cx_hit (x := ⟨0, 9, 12, 13⟩) hpl hown (hts (.classLink "GateTextLaw" 13 (sx_exc 0)) (sx_in_mem (i := 553) (by decide +kernel))) rfl (by decide) hW hcell g3 hk hfit
    · refine lv_astore_n (lv' := [(3, .ref a), (0, .ref (r 0)), (1, .int x), (2, .ref (r 39))]) hx hb (k := 3) (by decide +kernel) rfl hl (by decide) rfl (fun ls hl => ?_)
      refine lv_iconst (n := 1) (v := 1) hx hb (by decide +kernel) (by decide) ?_
      exact W.iret (v := 1) hx hb hr (fun t ht hW => ⟨⟨some (.int 1), _, hq, rfl, by rw [ht]; exact hP1, fun k q => by cases q⟩, hS1.F ht⟩) hS1.2.2 (by decide +kernel)
def yh_literal : MethodName := ⟨"GateTextLaw", "literal", "(LGateText;II[J)I"⟩
theorem wh_literal : Cond.codeWith yh_literal method_6_code 5 (some .int) [(0, 10, 13, 28)] ∈ sx_tb := sx_in_mem (i := 677) (by decide +kernel)
set_option maxHeartbeats 4000000 in
set_option maxRecDepth 100000 in
theorem h_literal (l : Launch) (hfl : l.flags = pinnedFlags ++ [noTraceFlag]) (D : va_G) (cI cJ cZ : ClassId) (r : Nat → Nat) (h : sx_H) (sz : Nat) {x : Int32} {y : Int32} {Q : sx_Q}
    (HX : sx_X sx_w 65 0 [some (.ref 0), some (.int x), some (.int y)] [] h (sx_qi fun z h' => Q (some (.int 0)) (h'.1, sx_u h'.2.1 39 0 z.toInt64, h'.2.2)) ∨ (sx_X sx_r 65 0 [some (.ref 0), some (.int x), some (.int y)] [] h (sx_qt 2 h) ∧ Q (some (.int 1)) h)) :
    Met l yh_literal (.codeWith yh_literal method_6_code 5 (some .int) [(0, 10, 13, 28)] :: sx_tb) hrm (hPc D cI cJ cZ r h sz [.ref 0, .int x, .int y, .ref 39]) (sx_Qc D cI cJ cZ r sx_w Q) 1 6 (sx_A r sx_w sz) := by
  refine hp_ofW (by decide) ?_
  intro p e s m args below meth c s₁ B hml htab hv
  obtain ⟨rfl, rfl, hinj, hK, hP, ht⟩ := hv
  have hx := B.exec
  have hb := B.bytes
  have hr := B.returns
  have hts' := atoms_spec (ws := .codeWith yh_literal method_6_code 5 (some .int) [(0, 10, 13, 28)] :: sx_tb) B.pre
  have hts : ∀ w ∈ sx_tb, w.before _ s = true := fun w hw => hts' w (List.mem_cons_of_mem _ hw)
  have hown : s.vm.findClass "GateTextLaw" = some m.cls := findClass_of_methodNamed B.named
  have hpl : e.platform.magicAccessors = ({} : Platform).magicAccessors := by rw [B.admits.platform]
  have hS : va_S (sx_A r sx_w s.heap.size) s.heap s.heap [] := va_S.rf
  have hl := lv_entry ([.ref (r 0), .int x, .int y, .ref (r 39)]) (n := 5) (Nat.le_of_ble_eq_true rfl)
  show W p l e hrm s m _ below meth c s.heap [] 0 0 _ (entryFrame m ([.ref (r 0), .int x, .int y, .ref (r 39)] : List Value).toArray 5)
  rw [lg_entry_eq]
  generalize (lg_sl ([.ref (r 0), .int x, .int y, .ref (r 39)]) ++ List.replicate (5 - (lg_sl ([.ref (r 0), .int x, .int y, .ref (r 39)])).length) Slot.unset).toArray = ls at hl ⊢
  have hl : lv_has ls 5 [(0, .ref (r 0)), (1, .int x), (2, .int y), (3, .ref (r 39))] := hl
  refine lv_aload_n hx hb (k := 3) (by decide +kernel) rfl (lv_at hl 3 rfl) ?_
  refine lv_iconst (n := 0) (v := 0) hx hb (by decide +kernel) (by decide) ?_
  refine lv_aload_n hx hb (k := 0) (by decide +kernel) rfl (lv_at hl 0 rfl) ?_
  refine lv_iload_n hx hb (k := 1) (by decide +kernel) rfl (lv_at hl 1 rfl) ?_
  refine lv_iload_n hx hb (k := 2) (by decide +kernel) rfl (lv_at hl 2 rfl) ?_
  rcases HX with HX | ⟨HX, hq⟩
  · refine hp_call (sh := sx_w) (j := 65) (index := 25) (own := "GateTextLaw") (av := [.int x, .int y]) (rest := [.int 0, .ref (r 39)]) rfl hx hb hown hts (by decide) (by decide +kernel) (Nat.le_of_ble_eq_true rfl) (sx_sound (sx_newOk_w l rfl) HX) (sx_in_mem (i := 679) (by decide +kernel)) (by decide +kernel) (by decide +kernel) (sx_in_mem (i := 681) (by decide +kernel)) (show (parseMethodDescriptor (sx_y 65).desc).map (fun d => d.parameters.length) = some 2 by decide +kernel) (by decide +kernel) (by decide +kernel) (Nat.le_of_ble_eq_true rfl) (Nat.le_of_ble_eq_true rfl) hinj hK hP hS ht rfl (by rw [hml]; exact hl.1) (Nat.le_of_ble_eq_true rfl) (by decide +kernel) (fun v h' H1 locs1 hq hP' hS' => ?_) (fun k h' a ce hq => absurd hq (fun z => z))
    obtain ⟨hq, -⟩ := hq
    cases v with
    | none => exact hq.elim
    | some v =>
      cases v with
      | int z =>
        refine W.eq (g2 := F0 m 8 ls [.int z, .int 0, .ref (r 39)]) rfl ?_
        refine lv_i2l (v := z.toInt64) hx hb (by decide +kernel) rfl ?_
        refine hp_last hx hb hinj hK hP' hS' (by decide +kernel) (fun H1 locs1 hp hs => ?_)
        refine lv_goto (off := 7) (tgt := 17) hx hb (by decide +kernel) (by decide) ?_
        refine lv_iconst (n := 0) (v := 0) hx hb (by decide +kernel) (by decide) ?_
        exact W.iret (v := 0) hx hb hr (fun t ht hW => ⟨⟨some (.int 0), _, hq, rfl, by rw [ht]; exact hp, fun k q => by cases q⟩, hs.F ht⟩) hs.2.2 (by decide +kernel)
      | _ => exact hq.elim
  · refine hp_call (sh := sx_r) (j := 65) (index := 25) (own := "GateTextLaw") (av := [.int x, .int y]) (rest := [.int 0, .ref (r 39)]) rfl hx hb hown hts (by decide) (by decide +kernel) (Nat.le_of_ble_eq_true rfl) (sx_sound (sx_newOk_t hfl sx_r) HX) (sx_in_mem (i := 679) (by decide +kernel)) (by decide +kernel) (by decide +kernel) (sx_in_mem (i := 681) (by decide +kernel)) (show (parseMethodDescriptor (sx_y 65).desc).map (fun d => d.parameters.length) = some 2 by decide +kernel) (by decide +kernel) (by decide +kernel) (Nat.le_of_ble_eq_true rfl) (Nat.le_of_ble_eq_true rfl) hinj hK hP hS ht rfl (by rw [hml]; exact hl.1) (Nat.le_of_ble_eq_true rfl) (by decide +kernel) (fun v h' H1 locs1 hz hP' hS' => absurd hz.1.1 (hz.2 2)) (fun k h' a ce hz g2 g3 => ?_)
    obtain ⟨e1, e2⟩ := hz
    cases e1
    subst e2
    obtain ⟨hk, hfit⟩ := hp_fit (by decide) hts ht g2
    refine ⟨13, fun S hW hcell => ?_, fun H1 hP1 hS1 => ?_⟩
    · rw [htab]
      exact cx_hit (x := ⟨0, 10, 13, 28⟩) hpl hown (hts (.classLink "GateTextLaw" 28 (sx_exc 2)) (sx_in_mem (i := 678) (by decide +kernel))) rfl (by decide) hW hcell g3 hk hfit
    · refine lv_astore (lv' := [(4, .ref a), (0, .ref (r 0)), (1, .int x), (2, .int y), (3, .ref (r 39))]) hx hb (i := 4) (by decide +kernel) hl (by decide) rfl (fun ls hl => ?_)
      refine lv_iconst (n := 1) (v := 1) hx hb (by decide +kernel) (by decide) ?_
      exact W.iret (v := 1) hx hb hr (fun t ht hW => ⟨⟨some (.int 1), _, hq, rfl, by rw [ht]; exact hP1, fun k q => by cases q⟩, hS1.F ht⟩) hS1.2.2 (by decide +kernel)
def yh_depth : MethodName := ⟨"GateTextLaw", "depth", "(LGateText;I[J)I"⟩
theorem wh_depth : Cond.codeWith yh_depth method_7_code 4 (some .int) [(0, 9, 12, 13)] ∈ sx_tb := sx_in_mem (i := 709) (by decide +kernel)
set_option maxHeartbeats 4000000 in
set_option maxRecDepth 100000 in
theorem h_depth (l : Launch) (hfl : l.flags = pinnedFlags ++ [noTraceFlag]) (D : va_G) (cI cJ cZ : ClassId) (r : Nat → Nat) (h : sx_H) (sz : Nat) {x : Int32} {Q : sx_Q}
    (HX : sx_X sx_w 66 0 [some (.ref 0), some (.int x), none] [] h (sx_qi fun z h' => Q (some (.int 0)) (h'.1, sx_u h'.2.1 39 0 z.toInt64, h'.2.2)) ∨ (sx_X sx_r 66 0 [some (.ref 0), some (.int x), none] [] h (sx_qt 0 h) ∧ Q (some (.int 1)) h)) :
    Met l yh_depth (.codeWith yh_depth method_7_code 4 (some .int) [(0, 9, 12, 13)] :: sx_tb) hrm (hPc D cI cJ cZ r h sz [.ref 0, .int x, .ref 39]) (sx_Qc D cI cJ cZ r sx_w Q) 1 6 (sx_A r sx_w sz) := by
  refine hp_ofW (by decide) ?_
  intro p e s m args below meth c s₁ B hml htab hv
  obtain ⟨rfl, rfl, hinj, hK, hP, ht⟩ := hv
  have hx := B.exec
  have hb := B.bytes
  have hr := B.returns
  have hts' := atoms_spec (ws := .codeWith yh_depth method_7_code 4 (some .int) [(0, 9, 12, 13)] :: sx_tb) B.pre
  have hts : ∀ w ∈ sx_tb, w.before _ s = true := fun w hw => hts' w (List.mem_cons_of_mem _ hw)
  have hown : s.vm.findClass "GateTextLaw" = some m.cls := findClass_of_methodNamed B.named
  have hpl : e.platform.magicAccessors = ({} : Platform).magicAccessors := by rw [B.admits.platform]
  have hS : va_S (sx_A r sx_w s.heap.size) s.heap s.heap [] := va_S.rf
  have hl := lv_entry ([.ref (r 0), .int x, .ref (r 39)]) (n := 4) (Nat.le_of_ble_eq_true rfl)
  show W p l e hrm s m _ below meth c s.heap [] 0 0 _ (entryFrame m ([.ref (r 0), .int x, .ref (r 39)] : List Value).toArray 4)
  rw [lg_entry_eq]
  generalize (lg_sl ([.ref (r 0), .int x, .ref (r 39)]) ++ List.replicate (4 - (lg_sl ([.ref (r 0), .int x, .ref (r 39)])).length) Slot.unset).toArray = ls at hl ⊢
  have hl : lv_has ls 4 [(0, .ref (r 0)), (1, .int x), (2, .ref (r 39))] := hl
  refine lv_aload_n hx hb (k := 2) (by decide +kernel) rfl (lv_at hl 2 rfl) ?_
  refine lv_iconst (n := 0) (v := 0) hx hb (by decide +kernel) (by decide) ?_
  refine lv_aload_n hx hb (k := 0) (by decide +kernel) rfl (lv_at hl 0 rfl) ?_
  refine lv_iload_n hx hb (k := 1) (by decide +kernel) rfl (lv_at hl 1 rfl) ?_
  rcases HX with HX | ⟨HX, hq⟩
  · refine hp_call (sh := sx_w) (j := 66) (index := 30) (own := "GateTextLaw") (av := [.int x]) (rest := [.int 0, .ref (r 39)]) rfl hx hb hown hts (by decide) (by decide +kernel) (Nat.le_of_ble_eq_true rfl) (sx_sound (sx_newOk_w l rfl) HX) (sx_in_mem (i := 710) (by decide +kernel)) (by decide +kernel) (by decide +kernel) (sx_in_mem (i := 712) (by decide +kernel)) (show (parseMethodDescriptor (sx_y 66).desc).map (fun d => d.parameters.length) = some 1 by decide +kernel) (by decide +kernel) (by decide +kernel) (Nat.le_of_ble_eq_true rfl) (Nat.le_of_ble_eq_true rfl) hinj hK hP hS ht rfl (by rw [hml]; exact hl.1) (Nat.le_of_ble_eq_true rfl) (by decide +kernel) (fun v h' H1 locs1 hq hP' hS' => ?_) (fun k h' a ce hq => absurd hq (fun z => z))
    obtain ⟨hq, -⟩ := hq
    cases v with
    | none => exact hq.elim
    | some v =>
      cases v with
      | int z =>
        refine W.eq (g2 := F0 m 7 ls [.int z, .int 0, .ref (r 39)]) rfl ?_
        refine lv_i2l (v := z.toInt64) hx hb (by decide +kernel) rfl ?_
        refine hp_last hx hb hinj hK hP' hS' (by decide +kernel) (fun H1 locs1 hp hs => ?_)
        refine lv_goto (off := 6) (tgt := 15) hx hb (by decide +kernel) (by decide) ?_
        refine lv_iconst (n := 0) (v := 0) hx hb (by decide +kernel) (by decide) ?_
        exact W.iret (v := 0) hx hb hr (fun t ht hW => ⟨⟨some (.int 0), _, hq, rfl, by rw [ht]; exact hp, fun k q => by cases q⟩, hs.F ht⟩) hs.2.2 (by decide +kernel)
      | _ => exact hq.elim
  · refine hp_call (sh := sx_r) (j := 66) (index := 30) (own := "GateTextLaw") (av := [.int x]) (rest := [.int 0, .ref (r 39)]) rfl hx hb hown hts (by decide) (by decide +kernel) (Nat.le_of_ble_eq_true rfl) (sx_sound (sx_newOk_t hfl sx_r) HX) (sx_in_mem (i := 710) (by decide +kernel)) (by decide +kernel) (by decide +kernel) (sx_in_mem (i := 712) (by decide +kernel)) (show (parseMethodDescriptor (sx_y 66).desc).map (fun d => d.parameters.length) = some 1 by decide +kernel) (by decide +kernel) (by decide +kernel) (Nat.le_of_ble_eq_true rfl) (Nat.le_of_ble_eq_true rfl) hinj hK hP hS ht rfl (by rw [hml]; exact hl.1) (Nat.le_of_ble_eq_true rfl) (by decide +kernel) (fun v h' H1 locs1 hz hP' hS' => absurd hz.1.1 (hz.2 0)) (fun k h' a ce hz g2 g3 => ?_)
    obtain ⟨e1, e2⟩ := hz
    cases e1
    subst e2
    obtain ⟨hk, hfit⟩ := hp_fit (by decide) hts ht g2
    refine ⟨12, fun S hW hcell => ?_, fun H1 hP1 hS1 => ?_⟩
    · rw [htab]
      exact cx_hit (x := ⟨0, 9, 12, 13⟩) hpl hown (hts (.classLink "GateTextLaw" 13 (sx_exc 0)) (sx_in_mem (i := 553) (by decide +kernel))) rfl (by decide) hW hcell g3 hk hfit
    · refine lv_astore_n (lv' := [(3, .ref a), (0, .ref (r 0)), (1, .int x), (2, .ref (r 39))]) hx hb (k := 3) (by decide +kernel) rfl hl (by decide) rfl (fun ls hl => ?_)
      refine lv_iconst (n := 1) (v := 1) hx hb (by decide +kernel) (by decide) ?_
      exact W.iret (v := 1) hx hb hr (fun t ht hW => ⟨⟨some (.int 1), _, hq, rfl, by rw [ht]; exact hP1, fun k q => by cases q⟩, hS1.F ht⟩) hS1.2.2 (by decide +kernel)
def yh_cone : MethodName := ⟨"GateTextLaw", "cone", "(LGateText;I[J)I"⟩
theorem wh_cone : Cond.codeWith yh_cone method_8_code 4 (some .int) [(0, 9, 12, 13)] ∈ sx_tb := sx_in_mem (i := 716) (by decide +kernel)
set_option maxHeartbeats 4000000 in
set_option maxRecDepth 100000 in
theorem h_cone (l : Launch) (hfl : l.flags = pinnedFlags ++ [noTraceFlag]) (D : va_G) (cI cJ cZ : ClassId) (r : Nat → Nat) (h : sx_H) (sz : Nat) {x : Int32} {Q : sx_Q}
    (HX : sx_X sx_w 67 0 [some (.ref 0), some (.int x), none] [] h (sx_qi fun z h' => Q (some (.int 0)) (h'.1, sx_u h'.2.1 39 0 z.toInt64, h'.2.2)) ∨ (sx_X sx_r 67 0 [some (.ref 0), some (.int x), none] [] h (sx_qt 0 h) ∧ Q (some (.int 1)) h)) :
    Met l yh_cone (.codeWith yh_cone method_8_code 4 (some .int) [(0, 9, 12, 13)] :: sx_tb) hrm (hPc D cI cJ cZ r h sz [.ref 0, .int x, .ref 39]) (sx_Qc D cI cJ cZ r sx_w Q) 1 6 (sx_A r sx_w sz) := by
  refine hp_ofW (by decide) ?_
  intro p e s m args below meth c s₁ B hml htab hv
  obtain ⟨rfl, rfl, hinj, hK, hP, ht⟩ := hv
  have hx := B.exec
  have hb := B.bytes
  have hr := B.returns
  have hts' := atoms_spec (ws := .codeWith yh_cone method_8_code 4 (some .int) [(0, 9, 12, 13)] :: sx_tb) B.pre
  have hts : ∀ w ∈ sx_tb, w.before _ s = true := fun w hw => hts' w (List.mem_cons_of_mem _ hw)
  have hown : s.vm.findClass "GateTextLaw" = some m.cls := findClass_of_methodNamed B.named
  have hpl : e.platform.magicAccessors = ({} : Platform).magicAccessors := by rw [B.admits.platform]
  have hS : va_S (sx_A r sx_w s.heap.size) s.heap s.heap [] := va_S.rf
  have hl := lv_entry ([.ref (r 0), .int x, .ref (r 39)]) (n := 4) (Nat.le_of_ble_eq_true rfl)
  show W p l e hrm s m _ below meth c s.heap [] 0 0 _ (entryFrame m ([.ref (r 0), .int x, .ref (r 39)] : List Value).toArray 4)
  rw [lg_entry_eq]
  generalize (lg_sl ([.ref (r 0), .int x, .ref (r 39)]) ++ List.replicate (4 - (lg_sl ([.ref (r 0), .int x, .ref (r 39)])).length) Slot.unset).toArray = ls at hl ⊢
  have hl : lv_has ls 4 [(0, .ref (r 0)), (1, .int x), (2, .ref (r 39))] := hl
  refine lv_aload_n hx hb (k := 2) (by decide +kernel) rfl (lv_at hl 2 rfl) ?_
  refine lv_iconst (n := 0) (v := 0) hx hb (by decide +kernel) (by decide) ?_
  refine lv_aload_n hx hb (k := 0) (by decide +kernel) rfl (lv_at hl 0 rfl) ?_
  refine lv_iload_n hx hb (k := 1) (by decide +kernel) rfl (lv_at hl 1 rfl) ?_
  rcases HX with HX | ⟨HX, hq⟩
  · refine hp_call (sh := sx_w) (j := 67) (index := 33) (own := "GateTextLaw") (av := [.int x]) (rest := [.int 0, .ref (r 39)]) rfl hx hb hown hts (by decide) (by decide +kernel) (Nat.le_of_ble_eq_true rfl) (sx_sound (sx_newOk_w l rfl) HX) (sx_in_mem (i := 717) (by decide +kernel)) (by decide +kernel) (by decide +kernel) (sx_in_mem (i := 719) (by decide +kernel)) (show (parseMethodDescriptor (sx_y 67).desc).map (fun d => d.parameters.length) = some 1 by decide +kernel) (by decide +kernel) (by decide +kernel) (Nat.le_of_ble_eq_true rfl) (Nat.le_of_ble_eq_true rfl) hinj hK hP hS ht rfl (by rw [hml]; exact hl.1) (Nat.le_of_ble_eq_true rfl) (by decide +kernel) (fun v h' H1 locs1 hq hP' hS' => ?_) (fun k h' a ce hq => absurd hq (fun z => z))
    obtain ⟨hq, -⟩ := hq
    cases v with
    | none => exact hq.elim
    | some v =>
      cases v with
      | int z =>
        refine W.eq (g2 := F0 m 7 ls [.int z, .int 0, .ref (r 39)]) rfl ?_
        refine lv_i2l (v := z.toInt64) hx hb (by decide +kernel) rfl ?_
        refine hp_last hx hb hinj hK hP' hS' (by decide +kernel) (fun H1 locs1 hp hs => ?_)
        refine lv_goto (off := 6) (tgt := 15) hx hb (by decide +kernel) (by decide) ?_
        refine lv_iconst (n := 0) (v := 0) hx hb (by decide +kernel) (by decide) ?_
        exact W.iret (v := 0) hx hb hr (fun t ht hW => ⟨⟨some (.int 0), _, hq, rfl, by rw [ht]; exact hp, fun k q => by cases q⟩, hs.F ht⟩) hs.2.2 (by decide +kernel)
      | _ => exact hq.elim
  · refine hp_call (sh := sx_r) (j := 67) (index := 33) (own := "GateTextLaw") (av := [.int x]) (rest := [.int 0, .ref (r 39)]) rfl hx hb hown hts (by decide) (by decide +kernel) (Nat.le_of_ble_eq_true rfl) (sx_sound (sx_newOk_t hfl sx_r) HX) (sx_in_mem (i := 717) (by decide +kernel)) (by decide +kernel) (by decide +kernel) (sx_in_mem (i := 719) (by decide +kernel)) (show (parseMethodDescriptor (sx_y 67).desc).map (fun d => d.parameters.length) = some 1 by decide +kernel) (by decide +kernel) (by decide +kernel) (Nat.le_of_ble_eq_true rfl) (Nat.le_of_ble_eq_true rfl) hinj hK hP hS ht rfl (by rw [hml]; exact hl.1) (Nat.le_of_ble_eq_true rfl) (by decide +kernel) (fun v h' H1 locs1 hz hP' hS' => absurd hz.1.1 (hz.2 0)) (fun k h' a ce hz g2 g3 => ?_)
    obtain ⟨e1, e2⟩ := hz
    cases e1
    subst e2
    obtain ⟨hk, hfit⟩ := hp_fit (by decide) hts ht g2
    refine ⟨12, fun S hW hcell => ?_, fun H1 hP1 hS1 => ?_⟩
    · rw [htab]
      exact cx_hit (x := ⟨0, 9, 12, 13⟩) hpl hown (hts (.classLink "GateTextLaw" 13 (sx_exc 0)) (sx_in_mem (i := 553) (by decide +kernel))) rfl (by decide) hW hcell g3 hk hfit
    · refine lv_astore_n (lv' := [(3, .ref a), (0, .ref (r 0)), (1, .int x), (2, .ref (r 39))]) hx hb (k := 3) (by decide +kernel) rfl hl (by decide) rfl (fun ls hl => ?_)
      refine lv_iconst (n := 1) (v := 1) hx hb (by decide +kernel) (by decide) ?_
      exact W.iret (v := 1) hx hb hr (fun t ht hW => ⟨⟨some (.int 1), _, hq, rfl, by rw [ht]; exact hP1, fun k q => by cases q⟩, hS1.F ht⟩) hS1.2.2 (by decide +kernel)
def yh_alike : MethodName := ⟨"GateTextLaw", "alike", "(LGateText;II[J)I"⟩
theorem wh_alike : Cond.codeWith yh_alike method_9_code 5 (some .int) [(0, 10, 13, 13)] ∈ sx_tb := sx_in_mem (i := 727) (by decide +kernel)
set_option maxHeartbeats 4000000 in
set_option maxRecDepth 100000 in
theorem h_alike (l : Launch) (hfl : l.flags = pinnedFlags ++ [noTraceFlag]) (D : va_G) (cI cJ cZ : ClassId) (r : Nat → Nat) (h : sx_H) (sz : Nat) {x : Int32} {y : Int32} {Q : sx_Q}
    (HX : sx_X sx_w 69 0 [some (.ref 0), some (.int x), some (.int y), none, none, none] [] h (sx_qi fun z h' => Q (some (.int 0)) (h'.1, sx_u h'.2.1 39 0 z.toInt64, h'.2.2)) ∨ (sx_X sx_r 69 0 [some (.ref 0), some (.int x), some (.int y), none, none, none] [] h (sx_qt 0 h) ∧ Q (some (.int 1)) h)) :
    Met l yh_alike (.codeWith yh_alike method_9_code 5 (some .int) [(0, 10, 13, 13)] :: sx_tb) hrm (hPc D cI cJ cZ r h sz [.ref 0, .int x, .int y, .ref 39]) (sx_Qc D cI cJ cZ r sx_w Q) 1 6 (sx_A r sx_w sz) := by
  refine hp_ofW (by decide) ?_
  intro p e s m args below meth c s₁ B hml htab hv
  obtain ⟨rfl, rfl, hinj, hK, hP, ht⟩ := hv
  have hx := B.exec
  have hb := B.bytes
  have hr := B.returns
  have hts' := atoms_spec (ws := .codeWith yh_alike method_9_code 5 (some .int) [(0, 10, 13, 13)] :: sx_tb) B.pre
  have hts : ∀ w ∈ sx_tb, w.before _ s = true := fun w hw => hts' w (List.mem_cons_of_mem _ hw)
  have hown : s.vm.findClass "GateTextLaw" = some m.cls := findClass_of_methodNamed B.named
  have hpl : e.platform.magicAccessors = ({} : Platform).magicAccessors := by rw [B.admits.platform]
  have hS : va_S (sx_A r sx_w s.heap.size) s.heap s.heap [] := va_S.rf
  have hl := lv_entry ([.ref (r 0), .int x, .int y, .ref (r 39)]) (n := 5) (Nat.le_of_ble_eq_true rfl)
  show W p l e hrm s m _ below meth c s.heap [] 0 0 _ (entryFrame m ([.ref (r 0), .int x, .int y, .ref (r 39)] : List Value).toArray 5)
  rw [lg_entry_eq]
  generalize (lg_sl ([.ref (r 0), .int x, .int y, .ref (r 39)]) ++ List.replicate (5 - (lg_sl ([.ref (r 0), .int x, .int y, .ref (r 39)])).length) Slot.unset).toArray = ls at hl ⊢
  have hl : lv_has ls 5 [(0, .ref (r 0)), (1, .int x), (2, .int y), (3, .ref (r 39))] := hl
  refine lv_aload_n hx hb (k := 3) (by decide +kernel) rfl (lv_at hl 3 rfl) ?_
  refine lv_iconst (n := 0) (v := 0) hx hb (by decide +kernel) (by decide) ?_
  refine lv_aload_n hx hb (k := 0) (by decide +kernel) rfl (lv_at hl 0 rfl) ?_
  refine lv_iload_n hx hb (k := 1) (by decide +kernel) rfl (lv_at hl 1 rfl) ?_
  refine lv_iload_n hx hb (k := 2) (by decide +kernel) rfl (lv_at hl 2 rfl) ?_
  rcases HX with HX | ⟨HX, hq⟩
  · refine hp_call (sh := sx_w) (j := 69) (index := 36) (own := "GateTextLaw") (av := [.int x, .int y]) (rest := [.int 0, .ref (r 39)]) rfl hx hb hown hts (by decide) (by decide +kernel) (Nat.le_of_ble_eq_true rfl) (sx_sound (sx_newOk_w l rfl) HX) (sx_in_mem (i := 728) (by decide +kernel)) (by decide +kernel) (by decide +kernel) (sx_in_mem (i := 730) (by decide +kernel)) (show (parseMethodDescriptor (sx_y 69).desc).map (fun d => d.parameters.length) = some 2 by decide +kernel) (by decide +kernel) (by decide +kernel) (Nat.le_of_ble_eq_true rfl) (Nat.le_of_ble_eq_true rfl) hinj hK hP hS ht rfl (by rw [hml]; exact hl.1) (Nat.le_of_ble_eq_true rfl) (by decide +kernel) (fun v h' H1 locs1 hq hP' hS' => ?_) (fun k h' a ce hq => absurd hq (fun z => z))
    obtain ⟨hq, -⟩ := hq
    cases v with
    | none => exact hq.elim
    | some v =>
      cases v with
      | int z =>
        refine W.eq (g2 := F0 m 8 ls [.int z, .int 0, .ref (r 39)]) rfl ?_
        refine lv_i2l (v := z.toInt64) hx hb (by decide +kernel) rfl ?_
        refine hp_last hx hb hinj hK hP' hS' (by decide +kernel) (fun H1 locs1 hp hs => ?_)
        refine lv_goto (off := 7) (tgt := 17) hx hb (by decide +kernel) (by decide) ?_
        refine lv_iconst (n := 0) (v := 0) hx hb (by decide +kernel) (by decide) ?_
        exact W.iret (v := 0) hx hb hr (fun t ht hW => ⟨⟨some (.int 0), _, hq, rfl, by rw [ht]; exact hp, fun k q => by cases q⟩, hs.F ht⟩) hs.2.2 (by decide +kernel)
      | _ => exact hq.elim
  · refine hp_call (sh := sx_r) (j := 69) (index := 36) (own := "GateTextLaw") (av := [.int x, .int y]) (rest := [.int 0, .ref (r 39)]) rfl hx hb hown hts (by decide) (by decide +kernel) (Nat.le_of_ble_eq_true rfl) (sx_sound (sx_newOk_t hfl sx_r) HX) (sx_in_mem (i := 728) (by decide +kernel)) (by decide +kernel) (by decide +kernel) (sx_in_mem (i := 730) (by decide +kernel)) (show (parseMethodDescriptor (sx_y 69).desc).map (fun d => d.parameters.length) = some 2 by decide +kernel) (by decide +kernel) (by decide +kernel) (Nat.le_of_ble_eq_true rfl) (Nat.le_of_ble_eq_true rfl) hinj hK hP hS ht rfl (by rw [hml]; exact hl.1) (Nat.le_of_ble_eq_true rfl) (by decide +kernel) (fun v h' H1 locs1 hz hP' hS' => absurd hz.1.1 (hz.2 0)) (fun k h' a ce hz g2 g3 => ?_)
    obtain ⟨e1, e2⟩ := hz
    cases e1
    subst e2
    obtain ⟨hk, hfit⟩ := hp_fit (by decide) hts ht g2
    refine ⟨13, fun S hW hcell => ?_, fun H1 hP1 hS1 => ?_⟩
    · rw [htab]
      exact cx_hit (x := ⟨0, 10, 13, 13⟩) hpl hown (hts (.classLink "GateTextLaw" 13 (sx_exc 0)) (sx_in_mem (i := 553) (by decide +kernel))) rfl (by decide) hW hcell g3 hk hfit
    · refine lv_astore (lv' := [(4, .ref a), (0, .ref (r 0)), (1, .int x), (2, .int y), (3, .ref (r 39))]) hx hb (i := 4) (by decide +kernel) hl (by decide) rfl (fun ls hl => ?_)
      refine lv_iconst (n := 1) (v := 1) hx hb (by decide +kernel) (by decide) ?_
      exact W.iret (v := 1) hx hb hr (fun t ht hW => ⟨⟨some (.int 1), _, hq, rfl, by rw [ht]; exact hP1, fun k q => by cases q⟩, hS1.F ht⟩) hS1.2.2 (by decide +kernel)
def yh_out : MethodName := ⟨"GateTextLaw", "out", "(LGateText;I[J)I"⟩
theorem wh_out : Cond.codeWith yh_out method_10_code 4 (some .int) [(0, 8, 11, 28)] ∈ sx_tb := sx_in_mem (i := 736) (by decide +kernel)
set_option maxHeartbeats 4000000 in
set_option maxRecDepth 100000 in
theorem h_out (l : Launch) (hfl : l.flags = pinnedFlags ++ [noTraceFlag]) (D : va_G) (cI cJ cZ : ClassId) (r : Nat → Nat) (h : sx_H) (sz : Nat) {x : Int32} {Q : sx_Q}
    (HX : sx_X sx_w 71 0 [some (.ref 0), some (.int x), none, none, none, none, none] [] h (sx_ql fun z h' => Q (some (.int 0)) (h'.1, sx_u h'.2.1 39 0 z, h'.2.2)) ∨ (sx_X sx_r 71 0 [some (.ref 0), some (.int x), none, none, none, none, none] [] h (sx_qt 2 h) ∧ Q (some (.int 1)) h)) :
    Met l yh_out (.codeWith yh_out method_10_code 4 (some .int) [(0, 8, 11, 28)] :: sx_tb) hrm (hPc D cI cJ cZ r h sz [.ref 0, .int x, .ref 39]) (sx_Qc D cI cJ cZ r sx_w Q) 1 6 (sx_A r sx_w sz) := by
  refine hp_ofW (by decide) ?_
  intro p e s m args below meth c s₁ B hml htab hv
  obtain ⟨rfl, rfl, hinj, hK, hP, ht⟩ := hv
  have hx := B.exec
  have hb := B.bytes
  have hr := B.returns
  have hts' := atoms_spec (ws := .codeWith yh_out method_10_code 4 (some .int) [(0, 8, 11, 28)] :: sx_tb) B.pre
  have hts : ∀ w ∈ sx_tb, w.before _ s = true := fun w hw => hts' w (List.mem_cons_of_mem _ hw)
  have hown : s.vm.findClass "GateTextLaw" = some m.cls := findClass_of_methodNamed B.named
  have hpl : e.platform.magicAccessors = ({} : Platform).magicAccessors := by rw [B.admits.platform]
  have hS : va_S (sx_A r sx_w s.heap.size) s.heap s.heap [] := va_S.rf
  have hl := lv_entry ([.ref (r 0), .int x, .ref (r 39)]) (n := 4) (Nat.le_of_ble_eq_true rfl)
  show W p l e hrm s m _ below meth c s.heap [] 0 0 _ (entryFrame m ([.ref (r 0), .int x, .ref (r 39)] : List Value).toArray 4)
  rw [lg_entry_eq]
  generalize (lg_sl ([.ref (r 0), .int x, .ref (r 39)]) ++ List.replicate (4 - (lg_sl ([.ref (r 0), .int x, .ref (r 39)])).length) Slot.unset).toArray = ls at hl ⊢
  have hl : lv_has ls 4 [(0, .ref (r 0)), (1, .int x), (2, .ref (r 39))] := hl
  refine lv_aload_n hx hb (k := 2) (by decide +kernel) rfl (lv_at hl 2 rfl) ?_
  refine lv_iconst (n := 0) (v := 0) hx hb (by decide +kernel) (by decide) ?_
  refine lv_aload_n hx hb (k := 0) (by decide +kernel) rfl (lv_at hl 0 rfl) ?_
  refine lv_iload_n hx hb (k := 1) (by decide +kernel) rfl (lv_at hl 1 rfl) ?_
  rcases HX with HX | ⟨HX, hq⟩
  · refine hp_call (sh := sx_w) (j := 71) (index := 39) (own := "GateTextLaw") (av := [.int x]) (rest := [.int 0, .ref (r 39)]) rfl hx hb hown hts (by decide) (by decide +kernel) (Nat.le_of_ble_eq_true rfl) (sx_sound (sx_newOk_w l rfl) HX) (sx_in_mem (i := 737) (by decide +kernel)) (by decide +kernel) (by decide +kernel) (sx_in_mem (i := 739) (by decide +kernel)) (show (parseMethodDescriptor (sx_y 71).desc).map (fun d => d.parameters.length) = some 1 by decide +kernel) (by decide +kernel) (by decide +kernel) (Nat.le_of_ble_eq_true rfl) (Nat.le_of_ble_eq_true rfl) hinj hK hP hS ht rfl (by rw [hml]; exact hl.1) (Nat.le_of_ble_eq_true rfl) (by decide +kernel) (fun v h' H1 locs1 hq hP' hS' => ?_) (fun k h' a ce hq => absurd hq (fun z => z))
    obtain ⟨hq, -⟩ := hq
    cases v with
    | none => exact hq.elim
    | some v =>
      cases v with
      | long z =>
        refine W.eq (g2 := F0 m 7 ls [.long z, .int 0, .ref (r 39)]) rfl ?_
        refine hp_last hx hb hinj hK hP' hS' (by decide +kernel) (fun H1 locs1 hp hs => ?_)
        refine lv_goto (off := 6) (tgt := 14) hx hb (by decide +kernel) (by decide) ?_
        refine lv_iconst (n := 0) (v := 0) hx hb (by decide +kernel) (by decide) ?_
        exact W.iret (v := 0) hx hb hr (fun t ht hW => ⟨⟨some (.int 0), _, hq, rfl, by rw [ht]; exact hp, fun k q => by cases q⟩, hs.F ht⟩) hs.2.2 (by decide +kernel)
      | _ => exact hq.elim
  · refine hp_call (sh := sx_r) (j := 71) (index := 39) (own := "GateTextLaw") (av := [.int x]) (rest := [.int 0, .ref (r 39)]) rfl hx hb hown hts (by decide) (by decide +kernel) (Nat.le_of_ble_eq_true rfl) (sx_sound (sx_newOk_t hfl sx_r) HX) (sx_in_mem (i := 737) (by decide +kernel)) (by decide +kernel) (by decide +kernel) (sx_in_mem (i := 739) (by decide +kernel)) (show (parseMethodDescriptor (sx_y 71).desc).map (fun d => d.parameters.length) = some 1 by decide +kernel) (by decide +kernel) (by decide +kernel) (Nat.le_of_ble_eq_true rfl) (Nat.le_of_ble_eq_true rfl) hinj hK hP hS ht rfl (by rw [hml]; exact hl.1) (Nat.le_of_ble_eq_true rfl) (by decide +kernel) (fun v h' H1 locs1 hz hP' hS' => absurd hz.1.1 (hz.2 2)) (fun k h' a ce hz g2 g3 => ?_)
    obtain ⟨e1, e2⟩ := hz
    cases e1
    subst e2
    obtain ⟨hk, hfit⟩ := hp_fit (by decide) hts ht g2
    refine ⟨11, fun S hW hcell => ?_, fun H1 hP1 hS1 => ?_⟩
    · rw [htab]
      exact cx_hit (x := ⟨0, 8, 11, 28⟩) hpl hown (hts (.classLink "GateTextLaw" 28 (sx_exc 2)) (sx_in_mem (i := 678) (by decide +kernel))) rfl (by decide) hW hcell g3 hk hfit
    · refine lv_astore_n (lv' := [(3, .ref a), (0, .ref (r 0)), (1, .int x), (2, .ref (r 39))]) hx hb (k := 3) (by decide +kernel) rfl hl (by decide) rfl (fun ls hl => ?_)
      refine lv_iconst (n := 1) (v := 1) hx hb (by decide +kernel) (by decide) ?_
      exact W.iret (v := 1) hx hb hr (fun t ht hW => ⟨⟨some (.int 1), _, hq, rfl, by rw [ht]; exact hP1, fun k q => by cases q⟩, hS1.F ht⟩) hS1.2.2 (by decide +kernel)
def yh_look : MethodName := ⟨"GateTextLaw", "look", "(LGateText;I[J)I"⟩
theorem wh_look : Cond.codeWith yh_look method_11_code 4 (some .int) [(0, 9, 12, 13)] ∈ sx_tb := sx_in_mem (i := 746) (by decide +kernel)
set_option maxHeartbeats 4000000 in
set_option maxRecDepth 100000 in
theorem h_look (l : Launch) (hfl : l.flags = pinnedFlags ++ [noTraceFlag]) (D : va_G) (cI cJ cZ : ClassId) (r : Nat → Nat) (h : sx_H) (sz : Nat) {x : Int32} {Q : sx_Q}
    (HX : sx_X sx_w 72 0 [some (.ref 0), some (.int x)] [] h (sx_qi fun z h' => Q (some (.int 0)) (h'.1, sx_u h'.2.1 39 0 z.toInt64, h'.2.2)) ∨ (sx_X sx_r 72 0 [some (.ref 0), some (.int x)] [] h (sx_qt 0 h) ∧ Q (some (.int 1)) h)) :
    Met l yh_look (.codeWith yh_look method_11_code 4 (some .int) [(0, 9, 12, 13)] :: sx_tb) hrm (hPc D cI cJ cZ r h sz [.ref 0, .int x, .ref 39]) (sx_Qc D cI cJ cZ r sx_w Q) 1 6 (sx_A r sx_w sz) := by
  refine hp_ofW (by decide) ?_
  intro p e s m args below meth c s₁ B hml htab hv
  obtain ⟨rfl, rfl, hinj, hK, hP, ht⟩ := hv
  have hx := B.exec
  have hb := B.bytes
  have hr := B.returns
  have hts' := atoms_spec (ws := .codeWith yh_look method_11_code 4 (some .int) [(0, 9, 12, 13)] :: sx_tb) B.pre
  have hts : ∀ w ∈ sx_tb, w.before _ s = true := fun w hw => hts' w (List.mem_cons_of_mem _ hw)
  have hown : s.vm.findClass "GateTextLaw" = some m.cls := findClass_of_methodNamed B.named
  have hpl : e.platform.magicAccessors = ({} : Platform).magicAccessors := by rw [B.admits.platform]
  have hS : va_S (sx_A r sx_w s.heap.size) s.heap s.heap [] := va_S.rf
  have hl := lv_entry ([.ref (r 0), .int x, .ref (r 39)]) (n := 4) (Nat.le_of_ble_eq_true rfl)
  show W p l e hrm s m _ below meth c s.heap [] 0 0 _ (entryFrame m ([.ref (r 0), .int x, .ref (r 39)] : List Value).toArray 4)
  rw [lg_entry_eq]
  generalize (lg_sl ([.ref (r 0), .int x, .ref (r 39)]) ++ List.replicate (4 - (lg_sl ([.ref (r 0), .int x, .ref (r 39)])).length) Slot.unset).toArray = ls at hl ⊢
  have hl : lv_has ls 4 [(0, .ref (r 0)), (1, .int x), (2, .ref (r 39))] := hl
  refine lv_aload_n hx hb (k := 2) (by decide +kernel) rfl (lv_at hl 2 rfl) ?_
  refine lv_iconst (n := 0) (v := 0) hx hb (by decide +kernel) (by decide) ?_
  refine lv_aload_n hx hb (k := 0) (by decide +kernel) rfl (lv_at hl 0 rfl) ?_
  refine lv_iload_n hx hb (k := 1) (by decide +kernel) rfl (lv_at hl 1 rfl) ?_
  rcases HX with HX | ⟨HX, hq⟩
  · refine hp_call (sh := sx_w) (j := 72) (index := 43) (own := "GateTextLaw") (av := [.int x]) (rest := [.int 0, .ref (r 39)]) rfl hx hb hown hts (by decide) (by decide +kernel) (Nat.le_of_ble_eq_true rfl) (sx_sound (sx_newOk_w l rfl) HX) (sx_in_mem (i := 747) (by decide +kernel)) (by decide +kernel) (by decide +kernel) (sx_in_mem (i := 749) (by decide +kernel)) (show (parseMethodDescriptor (sx_y 72).desc).map (fun d => d.parameters.length) = some 1 by decide +kernel) (by decide +kernel) (by decide +kernel) (Nat.le_of_ble_eq_true rfl) (Nat.le_of_ble_eq_true rfl) hinj hK hP hS ht rfl (by rw [hml]; exact hl.1) (Nat.le_of_ble_eq_true rfl) (by decide +kernel) (fun v h' H1 locs1 hq hP' hS' => ?_) (fun k h' a ce hq => absurd hq (fun z => z))
    obtain ⟨hq, -⟩ := hq
    cases v with
    | none => exact hq.elim
    | some v =>
      cases v with
      | int z =>
        refine W.eq (g2 := F0 m 7 ls [.int z, .int 0, .ref (r 39)]) rfl ?_
        refine lv_i2l (v := z.toInt64) hx hb (by decide +kernel) rfl ?_
        refine hp_last hx hb hinj hK hP' hS' (by decide +kernel) (fun H1 locs1 hp hs => ?_)
        refine lv_goto (off := 6) (tgt := 15) hx hb (by decide +kernel) (by decide) ?_
        refine lv_iconst (n := 0) (v := 0) hx hb (by decide +kernel) (by decide) ?_
        exact W.iret (v := 0) hx hb hr (fun t ht hW => ⟨⟨some (.int 0), _, hq, rfl, by rw [ht]; exact hp, fun k q => by cases q⟩, hs.F ht⟩) hs.2.2 (by decide +kernel)
      | _ => exact hq.elim
  · refine hp_call (sh := sx_r) (j := 72) (index := 43) (own := "GateTextLaw") (av := [.int x]) (rest := [.int 0, .ref (r 39)]) rfl hx hb hown hts (by decide) (by decide +kernel) (Nat.le_of_ble_eq_true rfl) (sx_sound (sx_newOk_t hfl sx_r) HX) (sx_in_mem (i := 747) (by decide +kernel)) (by decide +kernel) (by decide +kernel) (sx_in_mem (i := 749) (by decide +kernel)) (show (parseMethodDescriptor (sx_y 72).desc).map (fun d => d.parameters.length) = some 1 by decide +kernel) (by decide +kernel) (by decide +kernel) (Nat.le_of_ble_eq_true rfl) (Nat.le_of_ble_eq_true rfl) hinj hK hP hS ht rfl (by rw [hml]; exact hl.1) (Nat.le_of_ble_eq_true rfl) (by decide +kernel) (fun v h' H1 locs1 hz hP' hS' => absurd hz.1.1 (hz.2 0)) (fun k h' a ce hz g2 g3 => ?_)
    obtain ⟨e1, e2⟩ := hz
    cases e1
    subst e2
    obtain ⟨hk, hfit⟩ := hp_fit (by decide) hts ht g2
    refine ⟨12, fun S hW hcell => ?_, fun H1 hP1 hS1 => ?_⟩
    · rw [htab]
      exact cx_hit (x := ⟨0, 9, 12, 13⟩) hpl hown (hts (.classLink "GateTextLaw" 13 (sx_exc 0)) (sx_in_mem (i := 553) (by decide +kernel))) rfl (by decide) hW hcell g3 hk hfit
    · refine lv_astore_n (lv' := [(3, .ref a), (0, .ref (r 0)), (1, .int x), (2, .ref (r 39))]) hx hb (k := 3) (by decide +kernel) rfl hl (by decide) rfl (fun ls hl => ?_)
      refine lv_iconst (n := 1) (v := 1) hx hb (by decide +kernel) (by decide) ?_
      exact W.iret (v := 1) hx hb hr (fun t ht hW => ⟨⟨some (.int 1), _, hq, rfl, by rw [ht]; exact hP1, fun k q => by cases q⟩, hS1.F ht⟩) hS1.2.2 (by decide +kernel)
end HPS
