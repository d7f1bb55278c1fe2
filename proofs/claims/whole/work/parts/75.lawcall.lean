-- THE LAW: its calls
section LW
variable {p : Program} {l : Launch} {e : Env} {R : Room} {s : State} {m : MethodId} {args : Array Value} {below : List Frame} {meth : Method} {c : Code} {H : Heap} {locs : List Loc} {cells slots : Nat} {Q0 : State → Prop}
variable {D : va_G} {cI cJ cZ : ClassId} {r : Nat → Nat} {h : sx_H} {pc : Nat} {ls : Array Slot} {rest : List Value} {cc : ByteArray}
/-- the law's own cells: all new -/
abbrev lA (s : State) : Nat → Prop := fun q => s.heap.size ≤ q
def lwS (s : State) (D : va_G) (cI cJ cZ : ClassId) (r : Nat → Nat) (h : sx_H) (H : Heap) (locs : List Loc) : Prop := sx_inj r sx_w H.size ∧ sx_P D cI cJ cZ r sx_w h H ∧ va_S (lA s) s.heap H locs ∧ ∀ a, (sx_shp a).1 ≠ 0 → s.heap.size ≤ r a
theorem lw_back {mc ms : Nat} {Q : sx_Q} {a : Array Value} {st0 : List Value} (hr : va_Run p l e R s m args below meth c H locs cells slots mc ms (F0 m pc ls st0) rest (sx_Qc D cI cJ cZ r sx_w Q a) (sx_A r sx_w H.size)) (hLS : lwS s D cI cJ cZ r h H locs)
    (kk : ∀ (v : Option Value) (h' : sx_H) (H1 : Heap) (locs1 : List Loc), Q v h' → lwS s D cI cJ cZ r h' H1 locs1 → W p l e R s m args below meth c H1 locs1 (cells + mc) (slots + ms) Q0 (F0 m (pc + 3) ls ((v.map (sx_v r)).toList ++ rest))) :
    W p l e R s m args below meth c H locs cells slots Q0 (F0 m pc ls st0) := by
  intro T hT X
  obtain ⟨v, st₀, t, T', L, h0, X', hL, e1, e2, ⟨⟨v', h', hQ, hv, hP', -⟩, hz1, hk⟩, st⟩ := hr T hT X
  cases hv
  rw [h0] at hz1 hk
  rw [← e1] at hz1 hk hP'
  obtain ⟨l1, l2, l3, l4⟩ := hLS
  have hA : ∀ q, sx_A r sx_w H.size q → lA s q := fun q hq => by
    rcases hq with ⟨-, a, ha, hq⟩ | hq
    · rw [← hq]; exact l4 a ha
    · exact Nat.le_trans l3.1 hq
  obtain ⟨t2, b1, b2⟩ := kk v' h' T'.heap (locs ++ L) hQ ⟨sx_inj_up hz1 l1, hP', ⟨Nat.le_trans l3.1 hz1, fun q h1 h2 => by
      rw [hk q (Nat.lt_of_lt_of_le h1 l3.1) (fun z => h2 (hA q z))]; exact l3.2.1 q h1 h2, fun q hq => by
      rcases List.mem_append.mp hq with h1 | h1
      · exact l3.2.2 q h1
      · exact hA _ (hL q h1)⟩, l4⟩ T' rfl X'
  exact ⟨t2, st t2 b1, b2⟩
/-- a method that never throws is called by the law -/
theorem lw_callV {own : String} {j index a0 ci nL : Nat} {av : List Value} {Q : sx_Q} {C : String} {T : u_T} {N : Nat} (hx : p.tables.exec = Jvm.exec) (hb : c.code = cc) (hml : c.maxLocals = nL) (hown : s.vm.findClass own = some m.cls) (hts : ∀ w ∈ sx_tb, w.before args s = true) (hj : j < sx_nM) (hrc : sx_rc j = 0) (hcat : sx_cat (.ref a0 :: av) ≤ sx_ml j) (hnt : ∀ k h', ¬ Q (some (.retAddr k)) h') (HX : sx_X sx_w j 0 (sx_entry (sx_ml j) (.ref a0 :: av)) [] h Q)
    (hlink : Cond.methodLink own index (sx_y j) ∈ sx_tb) (hst : sx_st j = false) (hc : vwCl[ci]? = some (C, T, N)) (hyc : (sx_y j).cls = C) (hsel : Cond.selects C (sx_y j) (sx_y j) ∈ sx_tb) (hd : (parseMethodDescriptor (sx_y j).desc).map (fun d => d.parameters.length) = some av.length) (hfr : sx_fr j + 1 ≤ R.frames) (hlc : 8 + (sx_ml j + 11) + sx_lc j ≤ R.locals) (hc1 : cells ≤ R.cells) (hc2 : slots ≤ R.slots)
    (hK : sx_K D cI cJ cZ s) (hsh : (sx_shp a0).1 = ci + 4) (hLS : lwS s D cI cJ cZ r h H locs) (hls : ls.size = nL) (hr8 : (rest.map fun v => v.category).sum ≤ 8) (hdg : decode cc pc = .ok (.invokevirtual index, 3))
    (kk : ∀ (v : Option Value) (h' : sx_H) (H1 : Heap) (locs1 : List Loc), Q v h' → lwS s D cI cJ cZ r h' H1 locs1 → W p l e R s m args below meth c H1 locs1 cells slots Q0 (F0 m (pc + 3) ls ((v.map (sx_v r)).toList ++ rest))) :
    W p l e R s m args below meth c H locs cells slots Q0 (F0 m pc ls ((av.map (sx_v r)).reverse ++ .ref (r a0) :: rest)) := by
  obtain ⟨hini, -, hinst, -, -, hn1, hn2⟩ := sx_mfacts hj
  have hM := sx_met (l := l) (D := D) (cI := cI) (cJ := cJ) (cZ := cZ) (r := r) hj hrc hcat hnt (sx_sound (sx_newOk_w l rfl) HX) H.size
  have hgood : GoodIn sx_tb (sx_ws j) := fun w hw => by
    rcases List.mem_cons.mp hw with rfl | hw
    · exact ⟨sx_mcode hj, sx_tb_good (sx_mcode hj)⟩
    · exact ⟨hw, sx_tb_good hw⟩
  have hB := callB_of (R := R) (mc := 0) (ms := 0) (rm := sx_rm j) (own := own) (index := index) av.length hts hgood rfl hrc (by show 6 * sx_rc j = 0; rw [hrc]) (hts _ hini) (hts _ hlink) ⟨hn1, hn2, hd⟩ ⟨hfr, hlc⟩
  obtain ⟨l1, l2, l3, l4⟩ := id hLS
  obtain ⟨q, hq, cell, q1, q2, q3, q4⟩ := sx_at_ob (l2 a0) hsh
  cases Option.some.inj (hq.symm.trans hc)
  obtain ⟨-, hfc, -⟩ := hK.1.1 ci _ hq
  refine lw_back (mc := 0) (ms := 0) (va_runV (C := C) (As := av.map (sx_v r)) (b := r a0) (rest := rest) ⟨hx, hb, hml, hown, hts⟩ hM ⟨hB, hts _ (hinst hst), hts _ hsel⟩ ⟨sx_Pc_blind, ⟨cell, q1, by rw [q3]; rfl, by rw [q2]; exact hfc⟩, fun U hU hW => ⟨rfl, by rw [hU], l1, sx_K_warm hW hK, by rw [hU]; exact l2⟩⟩ rfl (by rw [List.length_map]) hls rfl (by show 2 * 0 + _ ≤ 8; omega) hdg ⟨hc1, hc2⟩) hLS kk
/-- a helper is called by the law -/
theorem lw_callS {own : String} {index ml : Nat} {y : MethodName} {b : ByteArray} {hd : List (Nat × Nat × Nat × Nat)} {as : List Value} {Q : sx_Q} (hx : p.tables.exec = Jvm.exec) (hb : c.code = cc) (hown : s.vm.findClass own = some m.cls) (hts : ∀ w ∈ sx_tb, w.before args s = true) (ht : tU s) (hK : sx_K D cI cJ cZ s)
    (hM : Met l y (.codeWith y b ml (some .int) hd :: sx_tb) hrm (hPc D cI cJ cZ r h H.size as) (sx_Qc D cI cJ cZ r sx_w Q) 1 6 (sx_A r sx_w H.size)) (w1 : Cond.codeWith y b ml (some .int) hd ∈ sx_tb) (w2 : Cond.methodLink own index y ∈ sx_tb) (w3 : Cond.static y ∈ sx_tb) (w4 : Cond.initialized y.cls ∈ sx_tb) (hy : y.cls ≠ "java/lang/invoke/MethodHandle" ∧ y.cls ≠ "java/lang/invoke/VarHandle") (hn : (parseMethodDescriptor y.desc).map (fun d => d.parameters.length) = some as.length) (hfr : 10 ≤ R.frames) (hlc : 8 + (ml + 11) + 323 ≤ R.locals) (hc1 : cells + 1 ≤ R.cells) (hc2 : slots + 6 ≤ R.slots)
    (hLS : lwS s D cI cJ cZ r h H locs) (hsize : ls.size = c.maxLocals) (hr8 : (rest.map fun v => v.category).sum ≤ 8) (hdg : decode cc pc = .ok (.invokestatic index, 3))
    (kk : ∀ (v : Option Value) (h' : sx_H) (H1 : Heap) (locs1 : List Loc), Q v h' → lwS s D cI cJ cZ r h' H1 locs1 → W p l e R s m args below meth c H1 locs1 (cells + 1) (slots + 6) Q0 (F0 m (pc + 3) ls ((v.map (sx_v r)).toList ++ rest))) :
    W p l e R s m args below meth c H locs cells slots Q0 (F0 m pc ls ((as.map (sx_v r)).reverse ++ rest)) := by
  obtain ⟨l1, l2, l3, l4⟩ := id hLS
  refine lw_back (mc := 1) (ms := 6) (hp_runS (As := as.map (sx_v r)) hx hb hown hts hM w1 w2 w3 w4 hy (by rw [List.length_map]; exact hn) rfl rfl hfr hlc hc1 hc2 (fun U hU hW => ⟨rfl, by rw [hU], l1, sx_K_warm hW hK, by rw [hU]; exact l2, tU_move hW (fun q hq => by rw [hU]; exact l3.2.1 q hq (Nat.not_le.mpr hq)) ht⟩) hPc_blind rfl hsize rfl (by show 2 * 0 + _ ≤ 8; omega) hdg (fun av st o t hq => ?_)) hLS kk
  obtain ⟨⟨v, h', -, hv, -⟩, -⟩ := hq
  exact ⟨_, hv⟩
end LW
