section SXC
variable {p : Program} {l : Launch} {e : Env} {s : State} {m : MethodId} {args : Array Value} {below : List Frame} {meth : Method} {c : Code} {H : Heap} {locs : List Loc}
variable {D : va_G} {cI cJ cZ : ClassId} {r : Nat → Nat} {sh : sx_S} {h : sx_H} {j pc : Nat} {ls : Array Slot} {rest : List Value}
theorem sx_mmax1 : Cond.static Lib.Math.max.name ∈ sx_tb := sx_in_mem (i := 99) (by decide +kernel)
theorem sx_mmax2 : Cond.initialized "java/lang/Math" ∈ sx_tb := sx_in_mem (i := 65) (by decide +kernel)
theorem sx_mmax3 : Cond.code Lib.Math.max.name Lib.Math.max.code 2 (some .int) ∈ sx_tb := sx_in_mem (i := 100) (by decide +kernel)
theorem sx_mmin1 : Cond.static Lib.Math.min.name ∈ sx_tb := sx_in_mem (i := 365) (by decide +kernel)
theorem sx_mmin3 : Cond.code Lib.Math.min.name Lib.Math.min.code 2 (some .int) ∈ sx_tb := sx_in_mem (i := 366) (by decide +kernel)
theorem sx_tb_good {w : Cond} (h : w ∈ sx_tb) : (w.onTables && w.keeps) = true ∨ ∃ ty, w = .arrayClass ty := good_of_word (List.mem_filter.mp h).2
theorem sx_mcode {j : Nat} (hj : j < sx_nM) : Cond.code (sx_y j) (sx_b j) (sx_ml j) (sx_rt j) ∈ sx_tb := by
  obtain ⟨i, hi⟩ := sx_mk j hj
  have h1 := sx_all sx_met_ok hj
  unfold sx_mck at h1
  rw [Bool.and_eq_true] at h1
  exact List.mem_filter.mpr ⟨List.mem_of_getElem? hi, h1.1⟩
theorem sx_mfacts {j : Nat} (hj : j < sx_nM) : Cond.initialized (sx_y j).cls ∈ sx_tb ∧ (sx_st j = true → Cond.static (sx_y j) ∈ sx_tb) ∧ (sx_st j = false → Cond.instanceMethod (sx_y j) ∈ sx_tb) ∧ plainName (sx_y j).cls = true ∧ sx_own j = (sx_y j).cls ∧ (sx_y j).cls ≠ "java/lang/invoke/MethodHandle" ∧ (sx_y j).cls ≠ "java/lang/invoke/VarHandle" := by
  have h1 := sx_all sx_met_ok hj
  unfold sx_mck at h1
  rw [Bool.and_eq_true, Bool.and_eq_true, Bool.and_eq_true, Bool.and_eq_true, Bool.and_eq_true, decide_eq_true_eq, decide_eq_true_eq] at h1
  obtain ⟨-, h2, h3, h4, h5, h6⟩ := h1
  refine ⟨sx_in_mem h2, fun hs => ?_, fun hs => ?_, h4, h5, h6.1, h6.2⟩
  · rw [hs] at h3; exact sx_in_mem h3
  · rw [hs] at h3; exact sx_in_mem h3
theorem sx_K_warm {U : State} (hW : s.WarmedH U.vm) (hK : sx_K D cI cJ cZ s) : sx_K D cI cJ cZ U := by
  refine ⟨va_K.moved hW.alike hK.1, fun w hw => ?_⟩
  have hz := hK.2 w hw
  have hf : ∀ w ∈ sx_nest, ∃ a i x q, w = .methodLinkNest a i x q := by
    intro w hw
    unfold sx_nest at hw
    simp only [List.mem_cons, List.not_mem_nil, or_false] at hw
    rcases hw with rfl | rfl | rfl | rfl | rfl | rfl | rfl | rfl | rfl <;> exact ⟨_, _, _, _, rfl⟩
  obtain ⟨a, i, x, q, rfl⟩ := hf w hw
  exact va_Nw.warmM hW hz
theorem sx_K_calling {U : State} (g : JFrame) (mk : MethodId) (a : Array Value) (hK : sx_K D cI cJ cZ U) : sx_K D cI cJ cZ (U.calling g mk a) := by
  refine ⟨va_K.moved (u := U) (U := U.calling g mk a) (Vm.Alike.refl U.vm) hK.1, fun w hw => ?_⟩
  have hf : ∀ w ∈ sx_nest, w.onTables = true := by
    intro w hw
    unfold sx_nest at hw
    simp only [List.mem_cons, List.not_mem_nil, or_false] at hw
    rcases hw with rfl | rfl | rfl | rfl | rfl | rfl | rfl | rfl | rfl <;> rfl
  exact va_Nw.same (hf w hw) (u := U) (U := U.calling g mk a) rfl (hK.2 w hw)
/-- what a method's start is in the small machine's words -/
def sx_Pc (D : va_G) (cI cJ cZ : ClassId) (r : Nat → Nat) (sh : sx_S) (h : sx_H) (sz : Nat) (as : List Value) : Array Value → State → Prop :=
  va_Pc (as.map (sx_v r)) (fun U => U.heap.size = sz ∧ sx_inj r sh sz ∧ sx_K D cI cJ cZ U ∧ sx_P D cI cJ cZ r sh h U.heap)
theorem sx_Pc_blind {sz : Nat} {as : List Value} : FrameBlind (sx_Pc D cI cJ cZ r sh h sz as) := by
  intro a U g mk ⟨h1, h2, h3, h4, h5⟩
  exact ⟨h1, h2, h3, sx_K_calling g mk a h4, h5⟩
/-- a run of the small machine from a method's entry is a contract of the method -/
theorem sx_met (hj : j < sx_nM) (hrc : sx_rc j = 0) {as : List Value} {R : sx_Q} (hcat : sx_cat as ≤ sx_ml j) (hnt : ∀ k h', ¬ R (some (.retAddr k)) h') (hsem : sx_sem l sh j 0 (sx_entry (sx_ml j) as) [] h R) (sz : Nat) :
    Met l (sx_y j) (sx_ws j) (sx_rm j) (sx_Pc D cI cJ cZ r sh h sz as) (sx_Qc D cI cJ cZ r sh R) 0 0 (sx_A r sh sz) := by
  obtain ⟨-, -, -, hplain, how, -, -⟩ := sx_mfacts hj
  refine Met.ofW (cc := sx_b j) (maxL := sx_ml j) (ret := sx_rt j) hplain rfl ?_
  intro p e s m args below meth c s₁ B hml hv
  obtain ⟨rfl, rfl, hinj, hK, hP⟩ := hv
  have hts := atoms_spec (ws := sx_ws j) B.pre
  have hown : s.vm.findClass (sx_own j) = some m.cls := by rw [how]; exact findClass_of_methodNamed B.named
  rw [lg_entry_eq]
  have hw := hsem D cI cJ cZ r p e s m (as.map (sx_v r)).toArray below meth c s.heap [] _ ⟨B.exec, B.bytes, B.returns, hml, hown, fun w hw => hts w (List.mem_cons_of_mem _ hw), B.notSynchronized, fun h1 => absurd (hrc.symm.trans h1) (by decide)⟩ hinj hK hP (sx_lo_entry r hcat) va_S.rf
  refine sx_W_m (fun t ht => ?_) hw
  rcases ht with ht | ⟨k, h', a, hq, -⟩
  · rw [hrc] at ht; exact ht
  · exact absurd hq (hnt k h')
/-- behind a call -/
theorem sx_back {R0 : Room} {Q0 : State → Prop} {R : sx_Q} {a : Array Value} {st0 : List Value} (hS : va_S (sx_A r sh s.heap.size) s.heap H locs) (hz : s.heap.size ≤ H.size)
    (hr : va_Run p l e R0 s m args below meth c H locs 0 0 0 0 (F0 m pc ls st0) rest (sx_Qc D cI cJ cZ r sh R a) (sx_A r sh H.size))
    (kk : ∀ (v : Option Value) (h' : sx_H) (H1 : Heap) (locs1 : List Loc), R v h' → sx_P D cI cJ cZ r sh h' H1 → va_S (sx_A r sh s.heap.size) s.heap H1 locs1 → W p l e R0 s m args below meth c H1 locs1 0 0 Q0 (F0 m (pc + 3) ls ((v.map (sx_v r)).toList ++ rest))) :
    W p l e R0 s m args below meth c H locs 0 0 Q0 (F0 m pc ls st0) := by
  intro T hT X
  obtain ⟨v, st₀, t, T', L, h0, X', hL, e1, e2, ⟨⟨v', h', hR, hv, hP', -⟩, hz1, hk⟩, st⟩ := hr T hT X
  cases hv
  rw [h0] at hz1 hk
  have hA : ∀ q, sx_A r sh H.size q → sx_A r sh s.heap.size q := fun q hq => by
    rcases hq with hq | hq
    · exact Or.inl hq
    · exact Or.inr (Nat.le_trans hz hq)
  obtain ⟨t2, a1, b1⟩ := kk v' h' T'.heap (locs ++ L) hR (by rw [e1]; exact hP') ⟨Nat.le_trans hS.1 (by rw [e1]; exact hz1), fun q h1 h2 => by
      rw [e1, hk q (Nat.lt_of_lt_of_le h1 hS.1) (fun z => h2 (hA q z))]; exact hS.2.1 q h1 h2, fun q hq => by
      rcases List.mem_append.mp hq with h1 | h1
      · exact hS.2.2 q h1
      · exact hA _ (hL q h1)⟩ T' rfl X'
  exact ⟨t2, st t2 a1, b1⟩
theorem sx_post_nt {rt : Option FieldType} {t : List Value} {f : List Value → sx_H → Prop} (k : Nat) (h' : sx_H) : ¬ sx_post rt t f (some (.retAddr k)) h' := by
  unfold sx_post
  split <;> exact fun q => q
theorem sx_map_rev {as b t : List Value} (r : Nat → Nat) (h : as = b.reverse) : (b ++ t).map (sx_v r) = (as.map (sx_v r)).reverse ++ t.map (sx_v r) := by
  rw [h, List.map_append, List.map_reverse, List.reverse_reverse]
theorem sx_inj_up {sz sz' : Nat} (h : sz ≤ sz') (hi : sx_inj r sh sz) : sx_inj r sh sz' := ⟨hi.1, fun a ha => Nat.lt_of_lt_of_le (hi.2 a ha) h⟩
set_option maxHeartbeats 4000000 in
theorem sx_callW {Q : sx_Q} {lv : sx_L} {st : List Value} {i : Nat} {en : sx_CE} (hctx : sx_ctx j p s m args meth c) (hinj : sx_inj r sh s.heap.size) (hK : sx_K D cI cJ cZ s) (hP : sx_P D cI cJ cZ r sh h H) (hlo : sx_lo r (sx_ml j) ls lv) (hS : va_S (sx_A r sh s.heap.size) s.heap H locs)
    (hc : sx_cal j i = some en) (hdg : (en.2.2.1 < 4 ∧ decode (sx_b j) pc = .ok (.invokestatic i, 3)) ∨ (en.2.2.1 = 4 ∧ decode (sx_b j) pc = .ok (.invokevirtual i, 3)))
    (HC : sx_cl sh (fun j' l' h' Q' => sx_sem l sh j' 0 l' [] h' Q') (fun t h => sx_sem l sh j (pc + 3) lv t h Q) en st h) :
    W p l e (sx_rm j) s m args below meth c H locs 0 0 (sx_Z j D cI cJ cZ r sh Q below args s) (F0 m pc ls (st.map (sx_v r))) := by
  have hctx' := hctx
  obtain ⟨hx, hb, hr, hml, hown, hts, hlk⟩ := hctx
  have hj : j < sx_nM := sx_lt_of rfl hc
  have hck := List.all_eq_true.mp (sx_all sx_cal_ok hj) _ (sx_fnd_mem hc)
  obtain ⟨j', na, kd, ci, pl, psl⟩ := en
  have hsz : s.heap.size ≤ H.size := hS.1
  have hml2 : c.maxLocals = ls.size := by rw [hml]; exact hlo.1.symm
  have common : ∀ {as t : List Value}, sx_cck1.sx_cckR j (j', na, kd, ci, pl, psl) = true → sx_cat t ≤ 8 → sx_cat as ≤ sx_ml j' → j' < sx_nM ∧ sx_rc j' = 0 ∧ sx_fr j' + 1 ≤ sx_fr j ∧ 8 + (sx_ml j' + 11) + sx_lc j' ≤ sx_lc j ∧ (parseMethodDescriptor (sx_y j').desc).map (fun d => d.parameters.length) = some (cond (sx_st j') na (na - 1)) := by
    intro as t hR _ _
    unfold sx_cck1.sx_cckR at hR
    rw [Bool.and_eq_true, Bool.and_eq_true, Bool.and_eq_true, Bool.and_eq_true, decide_eq_true_eq] at hR
    exact ⟨Nat.le_of_ble_eq_true hR.1, Nat.eq_of_beq_eq_true hR.2.1, Nat.le_of_ble_eq_true hR.2.2.1, Nat.le_of_ble_eq_true hR.2.2.2.1, hR.2.2.2.2⟩
  have hgood : ∀ {k : Nat}, k < sx_nM → GoodIn sx_tb (sx_ws k) := fun hk w hw => by
    rcases List.mem_cons.mp hw with rfl | hw
    · exact ⟨sx_mcode hk, sx_tb_good (sx_mcode hk)⟩
    · exact ⟨hw, sx_tb_good hw⟩
  have pre : ∀ {as : List Value}, PreS s H (sx_Pc D cI cJ cZ r sh h H.size as) (as.map (sx_v r)) := ⟨sx_Pc_blind, fun U hU hW => ⟨rfl, by rw [hU], sx_inj_up hsz hinj, sx_K_warm hW hK, by rw [hU]; exact hP⟩⟩
  have fin : ∀ {R : sx_Q} {t : List Value} {a : Array Value}, R = sx_post (sx_rt j') t (fun t h => sx_sem l sh j (pc + 3) lv t h Q) →
      va_Run p l e (sx_rm j) s m args below meth c H locs 0 0 0 0 (F0 m pc ls (st.map (sx_v r))) (t.map (sx_v r)) (sx_Qc D cI cJ cZ r sh R a) (sx_A r sh H.size) →
      W p l e (sx_rm j) s m args below meth c H locs 0 0 (sx_Z j D cI cJ cZ r sh Q below args s) (F0 m pc ls (st.map (sx_v r))) := by
    intro R t a hR hrun
    refine sx_back hS hsz hrun fun v h' H1 locs1 hq hP' hS' => ?_
    rw [hR] at hq
    have hk := sx_post_e hq D cI cJ cZ r p e s m args below meth c H1 locs1 ls hctx' hinj hK hP' hlo hS'
    have ee : (v.map (sx_v r)).toList ++ t.map (sx_v r) = (v.toList ++ t).map (sx_v r) := by cases v <;> rfl
    rw [ee]
    exact hk
  have room8 : ∀ {t : List Value}, sx_cat t ≤ 8 → 2 * (F0 m pc ls (st.map (sx_v r))).monitorRoom + ((t.map (sx_v r)).map fun v => v.category).sum ≤ 8 := fun ht => by
    show 2 * 0 + _ ≤ 8
    rw [sx_cat_e]
    omega
  match kd, hdg, hck, HC with
  | 0, hdg, hck, HC =>
    obtain ⟨x, y, t, rfl, HC⟩ := sx_i2_e HC
    obtain ⟨hct, HC⟩ := sx_cond_e HC
    obtain ⟨-, hdg⟩ | ⟨hh, -⟩ := hdg
    · simp only [sx_cck1, Bool.and_eq_true] at hck
      refine va_mmax hx hb hml2 hown (hts _ (sx_in_mem hck.1)) (hts _ sx_mmax1) (hts _ sx_mmax2) (hts _ sx_mmax3) (Nat.le_of_ble_eq_true hck.2.1) ?_ (Nat.zero_le _) (Nat.zero_le _) hdg (HC D cI cJ cZ r p e s m args below meth c H locs ls hctx' hinj hK hP hlo hS)
      rw [sx_cat_e]
      have h1 : sx_cat t ≤ 8 := Nat.le_of_ble_eq_true hct
      have h2 : 21 ≤ sx_lc j := Nat.le_of_ble_eq_true hck.2.2
      show sx_cat t + 13 ≤ sx_lc j
      omega
    · cases hh
  | 1, hdg, hck, HC =>
    obtain ⟨x, y, t, rfl, HC⟩ := sx_i2_e HC
    obtain ⟨hct, HC⟩ := sx_cond_e HC
    obtain ⟨-, hdg⟩ | ⟨hh, -⟩ := hdg
    · simp only [sx_cck1, Bool.and_eq_true] at hck
      refine va_mmin hx hb hml2 hown (hts _ (sx_in_mem hck.1)) (hts _ sx_mmin1) (hts _ sx_mmax2) (hts _ sx_mmin3) (Nat.le_of_ble_eq_true hck.2.1) ?_ (Nat.zero_le _) (Nat.zero_le _) hdg (HC D cI cJ cZ r p e s m args below meth c H locs ls hctx' hinj hK hP hlo hS)
      rw [sx_cat_e]
      have h1 : sx_cat t ≤ 8 := Nat.le_of_ble_eq_true hct
      have h2 : 21 ≤ sx_lc j := Nat.le_of_ble_eq_true hck.2.2
      show sx_cat t + 13 ≤ sx_lc j
      omega
    · cases hh
  | 2, hdg, hck, HC =>
    simp only [sx_cl] at HC
    split at HC
    · rename_i as t hpop
      obtain ⟨hct, HC⟩ := sx_cond_e HC
      rw [Bool.and_eq_true] at hct
      obtain ⟨b, h1, h2, h3⟩ := sx_pop_e hpop
      rw [List.append_nil] at h1
      obtain ⟨-, hdg⟩ | ⟨hh, -⟩ := hdg
      · simp only [sx_cck1, Bool.and_eq_true] at hck
        obtain ⟨hl, hst, hR⟩ := hck
        obtain ⟨hj', hrc, hfr, hlc, hpd⟩ := common hR (Nat.le_of_ble_eq_true hct.1) (Nat.le_of_ble_eq_true hct.2)
        rw [hst] at hpd
        obtain ⟨hini, hstat, -, -, -, hn1, hn2⟩ := sx_mfacts hj'
        have hM := sx_met (D := D) (cI := cI) (cJ := cJ) (cZ := cZ) (r := r) hj' hrc (Nat.le_of_ble_eq_true hct.2) sx_post_nt HC H.size
        have hB := callB_of (R := sx_rm j) (mc := 0) (ms := 0) (rm := sx_rm j') (own := sx_own j) (index := i) na hts (hgood hj') rfl hrc (by show 6 * sx_rc j' = 0; rw [hrc]) (hts _ hini) (hts _ (sx_in_mem hl)) ⟨hn1, hn2, hpd⟩ ⟨hfr, hlc⟩
        refine fin rfl (va_runS (As := as.map (sx_v r)) (rest := t.map (sx_v r)) ⟨hx, hb, hml, hown, hts⟩ hM ⟨hB, hts _ (hstat hst)⟩ pre rfl (by rw [List.length_map, h1, List.length_reverse]; exact h3) hlo.1 (by rw [h2]; exact sx_map_rev r h1) (room8 (Nat.le_of_ble_eq_true hct.1)) hdg ⟨Nat.zero_le _, Nat.zero_le _⟩)
      · cases hh
    · exact HC.elim
  | 3, hdg, hck, HC =>
    simp only [sx_cl] at HC
    split at HC
    · rename_i as t hpop
      obtain ⟨hct, HC⟩ := sx_cond_e HC
      rw [Bool.and_eq_true] at hct
      obtain ⟨b, h1, h2, h3⟩ := sx_pop_e hpop
      rw [List.append_nil] at h1
      obtain ⟨-, hdg⟩ | ⟨hh, -⟩ := hdg
      · simp only [sx_cck1, Bool.and_eq_true] at hck
        obtain ⟨hl, hst, hR⟩ := hck
        obtain ⟨hj', hrc, hfr, hlc, hpd⟩ := common hR (Nat.le_of_ble_eq_true hct.1) (Nat.le_of_ble_eq_true hct.2)
        rw [hst] at hpd
        obtain ⟨hini, hstat, -, -, -, hn1, hn2⟩ := sx_mfacts hj'
        have hM := sx_met (D := D) (cI := cI) (cJ := cJ) (cZ := cZ) (r := r) hj' hrc (Nat.le_of_ble_eq_true hct.2) sx_post_nt HC H.size
        have hB := va_cnB (R := sx_rm j) (mc := 0) (ms := 0) (rm := sx_rm j') (own := sx_own j) (index := i) (host := "GateText") na hts (hgood hj') rfl hrc (by show 6 * sx_rc j' = 0; rw [hrc]) (hK.2 _ (of_decide_eq_true hl)) (hts _ hini) ⟨hn1, hn2, hpd⟩ ⟨hfr, hlc⟩
        refine fin rfl (va_runSN (As := as.map (sx_v r)) (rest := t.map (sx_v r)) ⟨hx, hb, hml, hown, hts⟩ hM ⟨hB, hts _ (hstat hst), trivial⟩ pre rfl (by rw [List.length_map, h1, List.length_reverse]; exact h3) hlo.1 (by rw [h2]; exact sx_map_rev r h1) (room8 (Nat.le_of_ble_eq_true hct.1)) hdg ⟨Nat.zero_le _, Nat.zero_le _⟩)
      · cases hh
    · exact HC.elim
  | 4, hdg, hck, HC =>
    simp only [sx_cl] at HC
    split at HC
    · rename_i b0 as t hpop
      obtain ⟨hct, hk0, HC⟩ := sx_cond_e HC
      rw [Bool.and_eq_true] at hct
      obtain ⟨b, h1, h2, h3⟩ := sx_pop_e hpop
      rw [List.append_nil] at h1
      obtain ⟨hh, -⟩ | ⟨-, hdg⟩ := hdg
      · exact absurd hh (Nat.lt_irrefl 4)
      · simp only [sx_cck1, Bool.and_eq_true] at hck
        obtain ⟨hl, hsel, hst, hcl, hR⟩ := hck
        have hst : sx_st j' = false := by simpa using hst
        obtain ⟨hj', hrc, hfr, hlc, hpd⟩ := common hR (Nat.le_of_ble_eq_true hct.1) (Nat.le_of_ble_eq_true hct.2)
        rw [hst] at hpd
        obtain ⟨hini, -, hinst, -, -, hn1, hn2⟩ := sx_mfacts hj'
        have hM := sx_met (D := D) (cI := cI) (cJ := cJ) (cZ := cZ) (r := r) hj' hrc (Nat.le_of_ble_eq_true hct.2) sx_post_nt HC H.size
        have hB := callB_of (R := sx_rm j) (mc := 0) (ms := 0) (rm := sx_rm j') (own := sx_own j) (index := i) (na - 1) hts (hgood hj') rfl hrc (by show 6 * sx_rc j' = 0; rw [hrc]) (hts _ hini) (hts _ (sx_in_mem hl)) ⟨hn1, hn2, hpd⟩ ⟨hfr, hlc⟩
        obtain ⟨q, hq, cell, q1, q2, q3, q4⟩ := sx_at_ob (hP b0) hk0
        obtain ⟨-, hfc, -⟩ := hK.1.1 ci _ hq
        rw [hq] at hcl
        have hcl : q.1 = (sx_y j').cls := of_decide_eq_true hcl
        have hn : (as.map (sx_v r)).length = na - 1 := by
          have h4 : (Value.ref b0 :: as).length = na := by rw [h1, List.length_reverse]; exact h3
          rw [List.length_map]
          rw [List.length_cons] at h4
          omega
        refine fin rfl (va_runV (C := (sx_y j').cls) (As := as.map (sx_v r)) (b := r b0) (rest := t.map (sx_v r)) ⟨hx, hb, hml, hown, hts⟩ hM ⟨hB, hts _ (hinst hst), hts _ (sx_in_mem hsel)⟩ ⟨sx_Pc_blind, ⟨cell, q1, by rw [q3]; rfl, by rw [q2, ← hcl]; exact hfc⟩, (pre (as := .ref b0 :: as)).2⟩ rfl hn hlo.1 ?_ (room8 (Nat.le_of_ble_eq_true hct.1)) hdg ⟨Nat.zero_le _, Nat.zero_le _⟩)
        show st.map (sx_v r) = _
        rw [h2, sx_map_rev r h1, List.map_cons, List.reverse_cons, List.append_assoc]
        rfl
    · exact HC.elim
  | n + 5, hdg, hck, HC => exact False.elim HC
end SXC
