-- THE CONSTRUCTORS, one by one
section CTS
theorem dm218 : decode prog_9_method_1_code 218 = .ok (.iastore, 1) := by decide +kernel
theorem dm219 : decode prog_9_method_1_code 219 = .ok (.return_, 1) := by decide +kernel
theorem wo_i : Cond.instanceMethod objectInit ∈ sx_tb := sx_in_mem (i := 84) (by decide +kernel)
theorem wo_c : Cond.code objectInit ⟨#[0xb1]⟩ 1 none ∈ sx_tb := sx_in_mem (i := 85) (by decide +kernel)
theorem wa_int : Cond.arrayClass (newarray.typeOf .int) ∈ sx_tb := sx_in_mem (i := 136) (by decide +kernel)
theorem wa_long : Cond.arrayClass (newarray.typeOf .long) ∈ sx_tb := sx_in_mem (i := 110) (by decide +kernel)
theorem wa_boolean : Cond.arrayClass (newarray.typeOf .boolean) ∈ sx_tb := sx_in_mem (i := 876) (by decide +kernel)
def yk0 : MethodName := ⟨"GateText$ByteRow", "<init>", "(I)V"⟩
theorem wk0 : Cond.code yk0 prog_2_method_1_code 2 none ∈ sx_tb := sx_in_mem (i := 96) (by decide +kernel)
theorem wi0 : Cond.initialized "GateText$ByteRow" ∈ sx_tb ∧ Cond.instanceMethod yk0 ∈ sx_tb := ⟨sx_in_mem (i := 64) (by decide +kernel), sx_in_mem (i := 95) (by decide +kernel)⟩
theorem tyK0_ok : ∀ k, k < 2 → parseFieldDescriptor (TK0 k).2.2.1 = some (tyK0 k) := by decide +kernel
theorem dk0 : decode prog_2_method_1_code 1 = .ok (.invokespecial 3, 3) := by decide +kernel
set_option maxHeartbeats 4000000 in
set_option maxRecDepth 100000 in
theorem k_0 (l : Launch) (D : va_G) (cI cJ cZ : ClassId) (h0 sz : Nat) (WB : Nat) (hW : WB ≤ 1024) : Met l yk0 (cws yk0 prog_2_method_1_code 2) ({ frames := 1, cells := 1, slots := WB, locals := 21 }) (cPc D cI cJ cZ 0 h0 sz (fun k => defaultValue (tyK0 k)) [.int (nI (8 * WB))]) (cQc D 0 h0 sz (updV (fun k => defaultValue (tyK0 k)) 1 (.ref (sz + 0))) [ca cJ WB (.long 0)]) (1) (WB) (cA h0 sz) := by
  refine Met.ofW (cc := prog_2_method_1_code) (maxL := 2) (ret := none) (by decide) rfl ?_
  intro p e s m args below meth c s₁ B hml hv
  obtain ⟨rfl, hsz, hlt, hK, hco⟩ := hv
  have hx := B.exec
  have hb := B.bytes
  have hr := B.returns
  have hts' := atoms_spec (ws := cws yk0 prog_2_method_1_code 2) B.pre
  have hts : ∀ w ∈ sx_tb, w.before _ s = true := fun w hw => hts' w (List.mem_cons_of_mem _ hw)
  have hown : s.vm.findClass RK0 = some m.cls := findClass_of_methodNamed B.named
  have hin : meth.name = "<init>" := (name_of_methodNamed B.named B.method).1
  have hcI : s.vm.findClass ("[" ++ (newarray.typeOf .int).toString) = some cI := (hK.1.1.2 0 _ rfl).2
  have hcJ : s.vm.findClass ("[" ++ (newarray.typeOf .long).toString) = some cJ := (hK.1.1.2 1 _ rfl).2
  have hcZ : s.vm.findClass ("[" ++ (newarray.typeOf .boolean).toString) = some cZ := (hK.1.1.2 2 _ rfl).2
  subst hsz
  have hS : va_S (cA h0 s.heap.size) s.heap s.heap [] := va_S.rf
  have hcs : cS D 0 h0 s.heap.size s.heap (fun k => defaultValue (tyK0 k)) [] := ⟨rfl, hco, fun i P hi => (by cases hi), hlt⟩
  have hl := lv_entry ([.ref h0, .int (nI (8 * WB))]) (n := 2) (Nat.le_of_ble_eq_true rfl)
  rw [lg_entry_eq]
  generalize (lg_sl ([.ref h0, .int (nI (8 * WB))]) ++ List.replicate (2 - (lg_sl ([.ref h0, .int (nI (8 * WB))])).length) Slot.unset).toArray = ls at hl ⊢
  have hl : lv_has ls 2 [(0, .ref h0), (1, .int (nI (8 * WB)))] := hl
  refine lv_aload_n hx hb (k := 0) (by decide +kernel) rfl (lv_at hl 0 rfl) ?_
  refine W.objInit hx hb hown (hts (.methodLink RK0 3 objectInit) (sx_in_mem (i := 97) (by decide +kernel))) (hts _ wo_i) (hts _ wo_c) rfl (by rw [hml]; exact hl.1) rfl dk0 (Nat.le_of_ble_eq_true rfl) (Nat.le_of_ble_eq_true rfl) ?_
  refine W.eq (g2 := F0 m 4 ls []) rfl ?_
  refine lv_aload_n hx hb (k := 0) (by decide +kernel) rfl (lv_at hl 0 rfl) ?_
  refine lv_iconst (n := 0) (v := 0) hx hb (by decide +kernel) (by decide) ?_
  refine lv_iload_n hx hb (k := 1) (by decide +kernel) rfl (lv_at hl 1 rfl) ?_
  refine va_mmax hx hb (by rw [hml]; exact hl.1.symm) hown (hts (.methodLink RK0 9 Lib.Math.max.name) (sx_in_mem (i := 98) (by decide +kernel))) (hts _ sx_mmax1) (hts _ sx_mmax2) (hts _ sx_mmax3) (Nat.le_of_ble_eq_true rfl) (Nat.le_of_ble_eq_true rfl) (Nat.zero_le _) (Nat.zero_le _) (by decide +kernel) ?_
  rw [mx0 (by omega)]
  refine lv_bipush (n := 8) (v := 8) hx hb (by decide +kernel) (by decide) ?_
  refine lv_idiv hx hb (by decide +kernel) (by decide) ?_
  rw [show nI (8 * WB) / 8 = nI WB by rw [div8 (by omega)]; congr 1; omega]
  refine ct_newa (atype := .long) (N := WB) hx hb hts wa_long hcJ (nI_pos (by omega)) (nI_clamp (by omega)) (by show WB * 8 ≤ _; omega) (Nat.le_refl _) (by show 0 + WB ≤ WB; omega) hcs hS (by decide +kernel) (fun H hcs hS => ?_)
  refine ct_putF (k := 1) (index := 15) hx hb hown hts hK.1 hin rfl (by decide) (sx_in_mem (i := 104) (by decide +kernel)) rfl rfl rfl rfl rfl hcs hS (by decide +kernel) (fun H locs hcs hS => ?_)
  refine W.widen (k := 1) (n := WB) (by omega) (by omega) ?_
  exact W.vret hx hb hr (fun t ht hW => ⟨⟨rfl, by rw [ht]; exact hcs.1, by rw [ht]; exact hcs.2.1, by rw [ht]; exact hcs.2.2.1⟩, hS.F ht⟩) hS.2.2 (by decide +kernel)
def yk1 : MethodName := ⟨"GateText$Circuit", "<init>", "()V"⟩
theorem wk1 : Cond.code yk1 prog_3_method_1_code 1 none ∈ sx_tb := sx_in_mem (i := 192) (by decide +kernel)
theorem wi1 : Cond.initialized "GateText$Circuit" ∈ sx_tb ∧ Cond.instanceMethod yk1 ∈ sx_tb := ⟨sx_in_mem (i := 69) (by decide +kernel), sx_in_mem (i := 191) (by decide +kernel)⟩
theorem tyK1_ok : ∀ k, k < 14 → parseFieldDescriptor (TK1 k).2.2.1 = some (tyK1 k) := by decide +kernel
theorem dk1 : decode prog_3_method_1_code 1 = .ok (.invokespecial 3, 3) := by decide +kernel
set_option maxHeartbeats 4000000 in
set_option maxRecDepth 100000 in
theorem k_1 (l : Launch) (D : va_G) (cI cJ cZ : ClassId) (h0 sz : Nat) : Met l yk1 (cws yk1 prog_3_method_1_code 1) ({ frames := 1, cells := 10, slots := 3191, locals := 12 }) (cPc D cI cJ cZ 1 h0 sz (fun k => defaultValue (tyK1 k)) []) (cQc D 1 h0 sz (updV (updV (updV (updV (updV (updV (updV (updV (updV (updV (fun k => defaultValue (tyK1 k)) 4 (.ref (sz + 0))) 5 (.ref (sz + 1))) 6 (.ref (sz + 2))) 7 (.ref (sz + 3))) 8 (.ref (sz + 4))) 9 (.ref (sz + 5))) 10 (.ref (sz + 6))) 11 (.ref (sz + 7))) 12 (.ref (sz + 8))) 13 (.ref (sz + 9))) [ca cI 14 (.int 0), ca cI 16 (.int 0), ca cI 300 (.int 0), ca cI 300 (.int 0), ca cI 300 (.int 0), ca cI 315 (.int 0), ca cI 1001 (.int 0), ca cI 315 (.int 0), ca cI 315 (.int 0), ca cI 315 (.int 0)]) (10) (3191) (cA h0 sz) := by
  refine Met.ofW (cc := prog_3_method_1_code) (maxL := 1) (ret := none) (by decide) rfl ?_
  intro p e s m args below meth c s₁ B hml hv
  obtain ⟨rfl, hsz, hlt, hK, hco⟩ := hv
  have hx := B.exec
  have hb := B.bytes
  have hr := B.returns
  have hts' := atoms_spec (ws := cws yk1 prog_3_method_1_code 1) B.pre
  have hts : ∀ w ∈ sx_tb, w.before _ s = true := fun w hw => hts' w (List.mem_cons_of_mem _ hw)
  have hown : s.vm.findClass RK1 = some m.cls := findClass_of_methodNamed B.named
  have hin : meth.name = "<init>" := (name_of_methodNamed B.named B.method).1
  have hcI : s.vm.findClass ("[" ++ (newarray.typeOf .int).toString) = some cI := (hK.1.1.2 0 _ rfl).2
  have hcJ : s.vm.findClass ("[" ++ (newarray.typeOf .long).toString) = some cJ := (hK.1.1.2 1 _ rfl).2
  have hcZ : s.vm.findClass ("[" ++ (newarray.typeOf .boolean).toString) = some cZ := (hK.1.1.2 2 _ rfl).2
  subst hsz
  have hS : va_S (cA h0 s.heap.size) s.heap s.heap [] := va_S.rf
  have hcs : cS D 1 h0 s.heap.size s.heap (fun k => defaultValue (tyK1 k)) [] := ⟨rfl, hco, fun i P hi => (by cases hi), hlt⟩
  have hl := lv_entry ([.ref h0]) (n := 1) (Nat.le_of_ble_eq_true rfl)
  rw [lg_entry_eq]
  generalize (lg_sl ([.ref h0]) ++ List.replicate (1 - (lg_sl ([.ref h0])).length) Slot.unset).toArray = ls at hl ⊢
  have hl : lv_has ls 1 [(0, .ref h0)] := hl
  refine lv_aload_n hx hb (k := 0) (by decide +kernel) rfl (lv_at hl 0 rfl) ?_
  refine W.objInit hx hb hown (hts (.methodLink RK1 3 objectInit) (sx_in_mem (i := 193) (by decide +kernel))) (hts _ wo_i) (hts _ wo_c) rfl (by rw [hml]; exact hl.1) rfl dk1 (Nat.le_of_ble_eq_true rfl) (Nat.le_of_ble_eq_true rfl) ?_
  refine W.eq (g2 := F0 m 4 ls []) rfl ?_
  refine lv_aload_n hx hb (k := 0) (by decide +kernel) rfl (lv_at hl 0 rfl) ?_
  refine lv_bipush (n := 14) (v := 14) hx hb (by decide +kernel) (by decide) ?_
  refine ct_newa (atype := .int) (N := 14) hx hb hts wa_int hcI (by decide) (by decide) (by decide) (Nat.le_of_ble_eq_true rfl) (Nat.le_of_ble_eq_true rfl) hcs hS (by decide +kernel) (fun H hcs hS => ?_)
  refine ct_putF (k := 4) (index := 9) hx hb hown hts hK.1 hin rfl (by decide) (sx_in_mem (i := 212) (by decide +kernel)) rfl rfl rfl rfl rfl hcs hS (by decide +kernel) (fun H locs hcs hS => ?_)
  have hcs : cS D 1 h0 s.heap.size H (updV (fun k => defaultValue (tyK1 k)) 4 (.ref (s.heap.size + 0))) [ca cI 14 (.int 0)] := hcs
  refine lv_aload_n hx hb (k := 0) (by decide +kernel) rfl (lv_at hl 0 rfl) ?_
  refine lv_bipush (n := 16) (v := 16) hx hb (by decide +kernel) (by decide) ?_
  refine ct_newa (atype := .int) (N := 16) hx hb hts wa_int hcI (by decide) (by decide) (by decide) (Nat.le_of_ble_eq_true rfl) (Nat.le_of_ble_eq_true rfl) hcs hS (by decide +kernel) (fun H hcs hS => ?_)
  refine ct_putF (k := 5) (index := 15) hx hb hown hts hK.1 hin rfl (by decide) (sx_in_mem (i := 213) (by decide +kernel)) rfl rfl rfl rfl rfl hcs hS (by decide +kernel) (fun H locs hcs hS => ?_)
  have hcs : cS D 1 h0 s.heap.size H (updV (updV (fun k => defaultValue (tyK1 k)) 4 (.ref (s.heap.size + 0))) 5 (.ref (s.heap.size + 1))) [ca cI 14 (.int 0), ca cI 16 (.int 0)] := hcs
  refine lv_aload_n hx hb (k := 0) (by decide +kernel) rfl (lv_at hl 0 rfl) ?_
  refine lv_sipush (n := 300) (v := 300) hx hb (by decide +kernel) (by decide) ?_
  refine ct_newa (atype := .int) (N := 300) hx hb hts wa_int hcI (by decide) (by decide) (by decide) (Nat.le_of_ble_eq_true rfl) (Nat.le_of_ble_eq_true rfl) hcs hS (by decide +kernel) (fun H hcs hS => ?_)
  refine ct_putF (k := 6) (index := 18) hx hb hown hts hK.1 hin rfl (by decide) (sx_in_mem (i := 218) (by decide +kernel)) rfl rfl rfl rfl rfl hcs hS (by decide +kernel) (fun H locs hcs hS => ?_)
  have hcs : cS D 1 h0 s.heap.size H (updV (updV (updV (fun k => defaultValue (tyK1 k)) 4 (.ref (s.heap.size + 0))) 5 (.ref (s.heap.size + 1))) 6 (.ref (s.heap.size + 2))) [ca cI 14 (.int 0), ca cI 16 (.int 0), ca cI 300 (.int 0)] := hcs
  refine lv_aload_n hx hb (k := 0) (by decide +kernel) rfl (lv_at hl 0 rfl) ?_
  refine lv_sipush (n := 300) (v := 300) hx hb (by decide +kernel) (by decide) ?_
  refine ct_newa (atype := .int) (N := 300) hx hb hts wa_int hcI (by decide) (by decide) (by decide) (Nat.le_of_ble_eq_true rfl) (Nat.le_of_ble_eq_true rfl) hcs hS (by decide +kernel) (fun H hcs hS => ?_)
  refine ct_putF (k := 7) (index := 21) hx hb hown hts hK.1 hin rfl (by decide) (sx_in_mem (i := 220) (by decide +kernel)) rfl rfl rfl rfl rfl hcs hS (by decide +kernel) (fun H locs hcs hS => ?_)
  have hcs : cS D 1 h0 s.heap.size H (updV (updV (updV (updV (fun k => defaultValue (tyK1 k)) 4 (.ref (s.heap.size + 0))) 5 (.ref (s.heap.size + 1))) 6 (.ref (s.heap.size + 2))) 7 (.ref (s.heap.size + 3))) [ca cI 14 (.int 0), ca cI 16 (.int 0), ca cI 300 (.int 0), ca cI 300 (.int 0)] := hcs
  refine lv_aload_n hx hb (k := 0) (by decide +kernel) rfl (lv_at hl 0 rfl) ?_
  refine lv_sipush (n := 300) (v := 300) hx hb (by decide +kernel) (by decide) ?_
  refine ct_newa (atype := .int) (N := 300) hx hb hts wa_int hcI (by decide) (by decide) (by decide) (Nat.le_of_ble_eq_true rfl) (Nat.le_of_ble_eq_true rfl) hcs hS (by decide +kernel) (fun H hcs hS => ?_)
  refine ct_putF (k := 8) (index := 24) hx hb hown hts hK.1 hin rfl (by decide) (sx_in_mem (i := 222) (by decide +kernel)) rfl rfl rfl rfl rfl hcs hS (by decide +kernel) (fun H locs hcs hS => ?_)
  have hcs : cS D 1 h0 s.heap.size H (updV (updV (updV (updV (updV (fun k => defaultValue (tyK1 k)) 4 (.ref (s.heap.size + 0))) 5 (.ref (s.heap.size + 1))) 6 (.ref (s.heap.size + 2))) 7 (.ref (s.heap.size + 3))) 8 (.ref (s.heap.size + 4))) [ca cI 14 (.int 0), ca cI 16 (.int 0), ca cI 300 (.int 0), ca cI 300 (.int 0), ca cI 300 (.int 0)] := hcs
  refine lv_aload_n hx hb (k := 0) (by decide +kernel) rfl (lv_at hl 0 rfl) ?_
  refine lv_sipush (n := 315) (v := 315) hx hb (by decide +kernel) (by decide) ?_
  refine ct_newa (atype := .int) (N := 315) hx hb hts wa_int hcI (by decide) (by decide) (by decide) (Nat.le_of_ble_eq_true rfl) (Nat.le_of_ble_eq_true rfl) hcs hS (by decide +kernel) (fun H hcs hS => ?_)
  refine ct_putF (k := 9) (index := 27) hx hb hown hts hK.1 hin rfl (by decide) (sx_in_mem (i := 224) (by decide +kernel)) rfl rfl rfl rfl rfl hcs hS (by decide +kernel) (fun H locs hcs hS => ?_)
  have hcs : cS D 1 h0 s.heap.size H (updV (updV (updV (updV (updV (updV (fun k => defaultValue (tyK1 k)) 4 (.ref (s.heap.size + 0))) 5 (.ref (s.heap.size + 1))) 6 (.ref (s.heap.size + 2))) 7 (.ref (s.heap.size + 3))) 8 (.ref (s.heap.size + 4))) 9 (.ref (s.heap.size + 5))) [ca cI 14 (.int 0), ca cI 16 (.int 0), ca cI 300 (.int 0), ca cI 300 (.int 0), ca cI 300 (.int 0), ca cI 315 (.int 0)] := hcs
  refine lv_aload_n hx hb (k := 0) (by decide +kernel) rfl (lv_at hl 0 rfl) ?_
  refine lv_sipush (n := 1001) (v := 1001) hx hb (by decide +kernel) (by decide) ?_
  refine ct_newa (atype := .int) (N := 1001) hx hb hts wa_int hcI (by decide) (by decide) (by decide) (Nat.le_of_ble_eq_true rfl) (Nat.le_of_ble_eq_true rfl) hcs hS (by decide +kernel) (fun H hcs hS => ?_)
  refine ct_putF (k := 10) (index := 30) hx hb hown hts hK.1 hin rfl (by decide) (sx_in_mem (i := 226) (by decide +kernel)) rfl rfl rfl rfl rfl hcs hS (by decide +kernel) (fun H locs hcs hS => ?_)
  have hcs : cS D 1 h0 s.heap.size H (updV (updV (updV (updV (updV (updV (updV (fun k => defaultValue (tyK1 k)) 4 (.ref (s.heap.size + 0))) 5 (.ref (s.heap.size + 1))) 6 (.ref (s.heap.size + 2))) 7 (.ref (s.heap.size + 3))) 8 (.ref (s.heap.size + 4))) 9 (.ref (s.heap.size + 5))) 10 (.ref (s.heap.size + 6))) [ca cI 14 (.int 0), ca cI 16 (.int 0), ca cI 300 (.int 0), ca cI 300 (.int 0), ca cI 300 (.int 0), ca cI 315 (.int 0), ca cI 1001 (.int 0)] := hcs
  refine lv_aload_n hx hb (k := 0) (by decide +kernel) rfl (lv_at hl 0 rfl) ?_
  refine lv_sipush (n := 315) (v := 315) hx hb (by decide +kernel) (by decide) ?_
  refine ct_newa (atype := .int) (N := 315) hx hb hts wa_int hcI (by decide) (by decide) (by decide) (Nat.le_of_ble_eq_true rfl) (Nat.le_of_ble_eq_true rfl) hcs hS (by decide +kernel) (fun H hcs hS => ?_)
  refine ct_putF (k := 11) (index := 33) hx hb hown hts hK.1 hin rfl (by decide) (sx_in_mem (i := 227) (by decide +kernel)) rfl rfl rfl rfl rfl hcs hS (by decide +kernel) (fun H locs hcs hS => ?_)
  have hcs : cS D 1 h0 s.heap.size H (updV (updV (updV (updV (updV (updV (updV (updV (fun k => defaultValue (tyK1 k)) 4 (.ref (s.heap.size + 0))) 5 (.ref (s.heap.size + 1))) 6 (.ref (s.heap.size + 2))) 7 (.ref (s.heap.size + 3))) 8 (.ref (s.heap.size + 4))) 9 (.ref (s.heap.size + 5))) 10 (.ref (s.heap.size + 6))) 11 (.ref (s.heap.size + 7))) [ca cI 14 (.int 0), ca cI 16 (.int 0), ca cI 300 (.int 0), ca cI 300 (.int 0), ca cI 300 (.int 0), ca cI 315 (.int 0), ca cI 1001 (.int 0), ca cI 315 (.int 0)] := hcs
  refine lv_aload_n hx hb (k := 0) (by decide +kernel) rfl (lv_at hl 0 rfl) ?_
  refine lv_sipush (n := 315) (v := 315) hx hb (by decide +kernel) (by decide) ?_
  refine ct_newa (atype := .int) (N := 315) hx hb hts wa_int hcI (by decide) (by decide) (by decide) (Nat.le_of_ble_eq_true rfl) (Nat.le_of_ble_eq_true rfl) hcs hS (by decide +kernel) (fun H hcs hS => ?_)
  refine ct_putF (k := 12) (index := 36) hx hb hown hts hK.1 hin rfl (by decide) (sx_in_mem (i := 230) (by decide +kernel)) rfl rfl rfl rfl rfl hcs hS (by decide +kernel) (fun H locs hcs hS => ?_)
  have hcs : cS D 1 h0 s.heap.size H (updV (updV (updV (updV (updV (updV (updV (updV (updV (fun k => defaultValue (tyK1 k)) 4 (.ref (s.heap.size + 0))) 5 (.ref (s.heap.size + 1))) 6 (.ref (s.heap.size + 2))) 7 (.ref (s.heap.size + 3))) 8 (.ref (s.heap.size + 4))) 9 (.ref (s.heap.size + 5))) 10 (.ref (s.heap.size + 6))) 11 (.ref (s.heap.size + 7))) 12 (.ref (s.heap.size + 8))) [ca cI 14 (.int 0), ca cI 16 (.int 0), ca cI 300 (.int 0), ca cI 300 (.int 0), ca cI 300 (.int 0), ca cI 315 (.int 0), ca cI 1001 (.int 0), ca cI 315 (.int 0), ca cI 315 (.int 0)] := hcs
  refine lv_aload_n hx hb (k := 0) (by decide +kernel) rfl (lv_at hl 0 rfl) ?_
  refine lv_sipush (n := 315) (v := 315) hx hb (by decide +kernel) (by decide) ?_
  refine ct_newa (atype := .int) (N := 315) hx hb hts wa_int hcI (by decide) (by decide) (by decide) (Nat.le_of_ble_eq_true rfl) (Nat.le_of_ble_eq_true rfl) hcs hS (by decide +kernel) (fun H hcs hS => ?_)
  refine ct_putF (k := 13) (index := 39) hx hb hown hts hK.1 hin rfl (by decide) (sx_in_mem (i := 233) (by decide +kernel)) rfl rfl rfl rfl rfl hcs hS (by decide +kernel) (fun H locs hcs hS => ?_)
  have hcs : cS D 1 h0 s.heap.size H (updV (updV (updV (updV (updV (updV (updV (updV (updV (updV (fun k => defaultValue (tyK1 k)) 4 (.ref (s.heap.size + 0))) 5 (.ref (s.heap.size + 1))) 6 (.ref (s.heap.size + 2))) 7 (.ref (s.heap.size + 3))) 8 (.ref (s.heap.size + 4))) 9 (.ref (s.heap.size + 5))) 10 (.ref (s.heap.size + 6))) 11 (.ref (s.heap.size + 7))) 12 (.ref (s.heap.size + 8))) 13 (.ref (s.heap.size + 9))) [ca cI 14 (.int 0), ca cI 16 (.int 0), ca cI 300 (.int 0), ca cI 300 (.int 0), ca cI 300 (.int 0), ca cI 315 (.int 0), ca cI 1001 (.int 0), ca cI 315 (.int 0), ca cI 315 (.int 0), ca cI 315 (.int 0)] := hcs
  exact W.vret hx hb hr (fun t ht hW => ⟨⟨rfl, by rw [ht]; exact hcs.1, by rw [ht]; exact hcs.2.1, by rw [ht]; exact hcs.2.2.1⟩, hS.F ht⟩) hS.2.2 (by decide +kernel)
def yk3 : MethodName := ⟨"GateText$Settler", "<init>", "()V"⟩
theorem wk3 : Cond.code yk3 prog_5_method_1_code 1 none ∈ sx_tb := sx_in_mem (i := 141) (by decide +kernel)
theorem wi3 : Cond.initialized "GateText$Settler" ∈ sx_tb ∧ Cond.instanceMethod yk3 ∈ sx_tb := ⟨sx_in_mem (i := 66) (by decide +kernel), sx_in_mem (i := 140) (by decide +kernel)⟩
theorem tyK3_ok : ∀ k, k < 5 → parseFieldDescriptor (TK3 k).2.2.1 = some (tyK3 k) := by decide +kernel
theorem dk3 : decode prog_5_method_1_code 1 = .ok (.invokespecial 3, 3) := by decide +kernel
set_option maxHeartbeats 4000000 in
set_option maxRecDepth 100000 in
theorem k_3 (l : Launch) (D : va_G) (cI cJ cZ : ClassId) (h0 sz : Nat) : Met l yk3 (cws yk3 prog_5_method_1_code 1) ({ frames := 1, cells := 3, slots := 900, locals := 12 }) (cPc D cI cJ cZ 3 h0 sz (fun k => defaultValue (tyK3 k)) []) (cQc D 3 h0 sz (updV (updV (updV (fun k => defaultValue (tyK3 k)) 0 (.ref (sz + 0))) 2 (.ref (sz + 1))) 4 (.ref (sz + 2))) [ca cI 300 (.int 0), ca cI 300 (.int 0), ca cI 300 (.int 0)]) (3) (900) (cA h0 sz) := by
  refine Met.ofW (cc := prog_5_method_1_code) (maxL := 1) (ret := none) (by decide) rfl ?_
  intro p e s m args below meth c s₁ B hml hv
  obtain ⟨rfl, hsz, hlt, hK, hco⟩ := hv
  have hx := B.exec
  have hb := B.bytes
  have hr := B.returns
  have hts' := atoms_spec (ws := cws yk3 prog_5_method_1_code 1) B.pre
  have hts : ∀ w ∈ sx_tb, w.before _ s = true := fun w hw => hts' w (List.mem_cons_of_mem _ hw)
  have hown : s.vm.findClass RK3 = some m.cls := findClass_of_methodNamed B.named
  have hin : meth.name = "<init>" := (name_of_methodNamed B.named B.method).1
  have hcI : s.vm.findClass ("[" ++ (newarray.typeOf .int).toString) = some cI := (hK.1.1.2 0 _ rfl).2
  have hcJ : s.vm.findClass ("[" ++ (newarray.typeOf .long).toString) = some cJ := (hK.1.1.2 1 _ rfl).2
  have hcZ : s.vm.findClass ("[" ++ (newarray.typeOf .boolean).toString) = some cZ := (hK.1.1.2 2 _ rfl).2
  subst hsz
  have hS : va_S (cA h0 s.heap.size) s.heap s.heap [] := va_S.rf
  have hcs : cS D 3 h0 s.heap.size s.heap (fun k => defaultValue (tyK3 k)) [] := ⟨rfl, hco, fun i P hi => (by cases hi), hlt⟩
  have hl := lv_entry ([.ref h0]) (n := 1) (Nat.le_of_ble_eq_true rfl)
  rw [lg_entry_eq]
  generalize (lg_sl ([.ref h0]) ++ List.replicate (1 - (lg_sl ([.ref h0])).length) Slot.unset).toArray = ls at hl ⊢
  have hl : lv_has ls 1 [(0, .ref h0)] := hl
  refine lv_aload_n hx hb (k := 0) (by decide +kernel) rfl (lv_at hl 0 rfl) ?_
  refine W.objInit hx hb hown (hts (.methodLink RK3 3 objectInit) (sx_in_mem (i := 142) (by decide +kernel))) (hts _ wo_i) (hts _ wo_c) rfl (by rw [hml]; exact hl.1) rfl dk3 (Nat.le_of_ble_eq_true rfl) (Nat.le_of_ble_eq_true rfl) ?_
  refine W.eq (g2 := F0 m 4 ls []) rfl ?_
  refine lv_aload_n hx hb (k := 0) (by decide +kernel) rfl (lv_at hl 0 rfl) ?_
  refine lv_sipush (n := 300) (v := 300) hx hb (by decide +kernel) (by decide) ?_
  refine ct_newa (atype := .int) (N := 300) hx hb hts wa_int hcI (by decide) (by decide) (by decide) (Nat.le_of_ble_eq_true rfl) (Nat.le_of_ble_eq_true rfl) hcs hS (by decide +kernel) (fun H hcs hS => ?_)
  refine ct_putF (k := 0) (index := 9) hx hb hown hts hK.1 hin rfl (by decide) (sx_in_mem (i := 143) (by decide +kernel)) rfl rfl rfl rfl rfl hcs hS (by decide +kernel) (fun H locs hcs hS => ?_)
  have hcs : cS D 3 h0 s.heap.size H (updV (fun k => defaultValue (tyK3 k)) 0 (.ref (s.heap.size + 0))) [ca cI 300 (.int 0)] := hcs
  refine lv_aload_n hx hb (k := 0) (by decide +kernel) rfl (lv_at hl 0 rfl) ?_
  refine lv_sipush (n := 300) (v := 300) hx hb (by decide +kernel) (by decide) ?_
  refine ct_newa (atype := .int) (N := 300) hx hb hts wa_int hcI (by decide) (by decide) (by decide) (Nat.le_of_ble_eq_true rfl) (Nat.le_of_ble_eq_true rfl) hcs hS (by decide +kernel) (fun H hcs hS => ?_)
  refine ct_putF (k := 2) (index := 15) hx hb hown hts hK.1 hin rfl (by decide) (sx_in_mem (i := 145) (by decide +kernel)) rfl rfl rfl rfl rfl hcs hS (by decide +kernel) (fun H locs hcs hS => ?_)
  have hcs : cS D 3 h0 s.heap.size H (updV (updV (fun k => defaultValue (tyK3 k)) 0 (.ref (s.heap.size + 0))) 2 (.ref (s.heap.size + 1))) [ca cI 300 (.int 0), ca cI 300 (.int 0)] := hcs
  refine lv_aload_n hx hb (k := 0) (by decide +kernel) rfl (lv_at hl 0 rfl) ?_
  refine lv_sipush (n := 300) (v := 300) hx hb (by decide +kernel) (by decide) ?_
  refine ct_newa (atype := .int) (N := 300) hx hb hts wa_int hcI (by decide) (by decide) (by decide) (Nat.le_of_ble_eq_true rfl) (Nat.le_of_ble_eq_true rfl) hcs hS (by decide +kernel) (fun H hcs hS => ?_)
  refine ct_putF (k := 4) (index := 18) hx hb hown hts hK.1 hin rfl (by decide) (sx_in_mem (i := 147) (by decide +kernel)) rfl rfl rfl rfl rfl hcs hS (by decide +kernel) (fun H locs hcs hS => ?_)
  have hcs : cS D 3 h0 s.heap.size H (updV (updV (updV (fun k => defaultValue (tyK3 k)) 0 (.ref (s.heap.size + 0))) 2 (.ref (s.heap.size + 1))) 4 (.ref (s.heap.size + 2))) [ca cI 300 (.int 0), ca cI 300 (.int 0), ca cI 300 (.int 0)] := hcs
  exact W.vret hx hb hr (fun t ht hW => ⟨⟨rfl, by rw [ht]; exact hcs.1, by rw [ht]; exact hcs.2.1, by rw [ht]; exact hcs.2.2.1⟩, hS.F ht⟩) hS.2.2 (by decide +kernel)
def yk4 : MethodName := ⟨"GateText$Walker", "<init>", "()V"⟩
theorem wk4 : Cond.code yk4 prog_6_method_1_code 1 none ∈ sx_tb := sx_in_mem (i := 163) (by decide +kernel)
theorem wi4 : Cond.initialized "GateText$Walker" ∈ sx_tb ∧ Cond.instanceMethod yk4 ∈ sx_tb := ⟨sx_in_mem (i := 67) (by decide +kernel), sx_in_mem (i := 162) (by decide +kernel)⟩
theorem tyK4_ok : ∀ k, k < 3 → parseFieldDescriptor (TK4 k).2.2.1 = some (tyK4 k) := by decide +kernel
theorem dk4 : decode prog_6_method_1_code 1 = .ok (.invokespecial 3, 3) := by decide +kernel
set_option maxHeartbeats 4000000 in
set_option maxRecDepth 100000 in
theorem k_4 (l : Launch) (D : va_G) (cI cJ cZ : ClassId) (h0 sz : Nat) : Met l yk4 (cws yk4 prog_6_method_1_code 1) ({ frames := 1, cells := 3, slots := 945, locals := 12 }) (cPc D cI cJ cZ 4 h0 sz (fun k => defaultValue (tyK4 k)) []) (cQc D 4 h0 sz (updV (updV (updV (fun k => defaultValue (tyK4 k)) 0 (.ref (sz + 0))) 1 (.ref (sz + 1))) 2 (.ref (sz + 2))) [ca cI 315 (.int 0), ca cI 315 (.int 0), ca cI 315 (.int 0)]) (3) (945) (cA h0 sz) := by
  refine Met.ofW (cc := prog_6_method_1_code) (maxL := 1) (ret := none) (by decide) rfl ?_
  intro p e s m args below meth c s₁ B hml hv
  obtain ⟨rfl, hsz, hlt, hK, hco⟩ := hv
  have hx := B.exec
  have hb := B.bytes
  have hr := B.returns
  have hts' := atoms_spec (ws := cws yk4 prog_6_method_1_code 1) B.pre
  have hts : ∀ w ∈ sx_tb, w.before _ s = true := fun w hw => hts' w (List.mem_cons_of_mem _ hw)
  have hown : s.vm.findClass RK4 = some m.cls := findClass_of_methodNamed B.named
  have hin : meth.name = "<init>" := (name_of_methodNamed B.named B.method).1
  have hcI : s.vm.findClass ("[" ++ (newarray.typeOf .int).toString) = some cI := (hK.1.1.2 0 _ rfl).2
  have hcJ : s.vm.findClass ("[" ++ (newarray.typeOf .long).toString) = some cJ := (hK.1.1.2 1 _ rfl).2
  have hcZ : s.vm.findClass ("[" ++ (newarray.typeOf .boolean).toString) = some cZ := (hK.1.1.2 2 _ rfl).2
  subst hsz
  have hS : va_S (cA h0 s.heap.size) s.heap s.heap [] := va_S.rf
  have hcs : cS D 4 h0 s.heap.size s.heap (fun k => defaultValue (tyK4 k)) [] := ⟨rfl, hco, fun i P hi => (by cases hi), hlt⟩
  have hl := lv_entry ([.ref h0]) (n := 1) (Nat.le_of_ble_eq_true rfl)
  rw [lg_entry_eq]
  generalize (lg_sl ([.ref h0]) ++ List.replicate (1 - (lg_sl ([.ref h0])).length) Slot.unset).toArray = ls at hl ⊢
  have hl : lv_has ls 1 [(0, .ref h0)] := hl
  refine lv_aload_n hx hb (k := 0) (by decide +kernel) rfl (lv_at hl 0 rfl) ?_
  refine W.objInit hx hb hown (hts (.methodLink RK4 3 objectInit) (sx_in_mem (i := 164) (by decide +kernel))) (hts _ wo_i) (hts _ wo_c) rfl (by rw [hml]; exact hl.1) rfl dk4 (Nat.le_of_ble_eq_true rfl) (Nat.le_of_ble_eq_true rfl) ?_
  refine W.eq (g2 := F0 m 4 ls []) rfl ?_
  refine lv_aload_n hx hb (k := 0) (by decide +kernel) rfl (lv_at hl 0 rfl) ?_
  refine lv_sipush (n := 315) (v := 315) hx hb (by decide +kernel) (by decide) ?_
  refine ct_newa (atype := .int) (N := 315) hx hb hts wa_int hcI (by decide) (by decide) (by decide) (Nat.le_of_ble_eq_true rfl) (Nat.le_of_ble_eq_true rfl) hcs hS (by decide +kernel) (fun H hcs hS => ?_)
  refine ct_putF (k := 0) (index := 9) hx hb hown hts hK.1 hin rfl (by decide) (sx_in_mem (i := 165) (by decide +kernel)) rfl rfl rfl rfl rfl hcs hS (by decide +kernel) (fun H locs hcs hS => ?_)
  have hcs : cS D 4 h0 s.heap.size H (updV (fun k => defaultValue (tyK4 k)) 0 (.ref (s.heap.size + 0))) [ca cI 315 (.int 0)] := hcs
  refine lv_aload_n hx hb (k := 0) (by decide +kernel) rfl (lv_at hl 0 rfl) ?_
  refine lv_sipush (n := 315) (v := 315) hx hb (by decide +kernel) (by decide) ?_
  refine ct_newa (atype := .int) (N := 315) hx hb hts wa_int hcI (by decide) (by decide) (by decide) (Nat.le_of_ble_eq_true rfl) (Nat.le_of_ble_eq_true rfl) hcs hS (by decide +kernel) (fun H hcs hS => ?_)
  refine ct_putF (k := 1) (index := 15) hx hb hown hts hK.1 hin rfl (by decide) (sx_in_mem (i := 166) (by decide +kernel)) rfl rfl rfl rfl rfl hcs hS (by decide +kernel) (fun H locs hcs hS => ?_)
  have hcs : cS D 4 h0 s.heap.size H (updV (updV (fun k => defaultValue (tyK4 k)) 0 (.ref (s.heap.size + 0))) 1 (.ref (s.heap.size + 1))) [ca cI 315 (.int 0), ca cI 315 (.int 0)] := hcs
  refine lv_aload_n hx hb (k := 0) (by decide +kernel) rfl (lv_at hl 0 rfl) ?_
  refine lv_sipush (n := 315) (v := 315) hx hb (by decide +kernel) (by decide) ?_
  refine ct_newa (atype := .int) (N := 315) hx hb hts wa_int hcI (by decide) (by decide) (by decide) (Nat.le_of_ble_eq_true rfl) (Nat.le_of_ble_eq_true rfl) hcs hS (by decide +kernel) (fun H hcs hS => ?_)
  refine ct_putF (k := 2) (index := 18) hx hb hown hts hK.1 hin rfl (by decide) (sx_in_mem (i := 167) (by decide +kernel)) rfl rfl rfl rfl rfl hcs hS (by decide +kernel) (fun H locs hcs hS => ?_)
  have hcs : cS D 4 h0 s.heap.size H (updV (updV (updV (fun k => defaultValue (tyK4 k)) 0 (.ref (s.heap.size + 0))) 1 (.ref (s.heap.size + 1))) 2 (.ref (s.heap.size + 2))) [ca cI 315 (.int 0), ca cI 315 (.int 0), ca cI 315 (.int 0)] := hcs
  exact W.vret hx hb hr (fun t ht hW => ⟨⟨rfl, by rw [ht]; exact hcs.1, by rw [ht]; exact hcs.2.1, by rw [ht]; exact hcs.2.2.1⟩, hS.F ht⟩) hS.2.2 (by decide +kernel)
def yk2 : MethodName := ⟨"GateText$Reader", "<init>", "()V"⟩
theorem wk2 : Cond.code yk2 prog_4_method_1_code 1 none ∈ sx_tb := sx_in_mem (i := 90) (by decide +kernel)
theorem wi2 : Cond.initialized "GateText$Reader" ∈ sx_tb ∧ Cond.instanceMethod yk2 ∈ sx_tb := ⟨sx_in_mem (i := 63) (by decide +kernel), sx_in_mem (i := 89) (by decide +kernel)⟩
theorem tyK2_ok : ∀ k, k < 7 → parseFieldDescriptor (TK2 k).2.2.1 = some (tyK2 k) := by decide +kernel
theorem dk2 : decode prog_4_method_1_code 1 = .ok (.invokespecial 3, 3) := by decide +kernel
set_option maxHeartbeats 4000000 in
set_option maxRecDepth 100000 in
theorem k_2 (l : Launch) (D : va_G) (cI cJ cZ : ClassId) (h0 sz : Nat) : Met l yk2 (cws yk2 prog_4_method_1_code 1) ({ frames := 2, cells := 4, slots := 1036, locals := 42 }) (cPc D cI cJ cZ 2 h0 sz (fun k => defaultValue (tyK2 k)) []) (cQc D 2 h0 sz (updV (updV (updV (fun k => defaultValue (tyK2 k)) 0 (.ref (sz + 0))) 3 (.ref (sz + 2))) 4 (.ref (sz + 3))) [co D 0 (updV (fun k => defaultValue (tyK0 k)) 1 (.ref (sz + 0 + 1 + 0))), ca cJ 1024 (.long 0), ca cI 5 (.int 0), ca cI 5 (.int 0)]) (4) (1036) (cA h0 sz) := by
  refine Met.ofW (cc := prog_4_method_1_code) (maxL := 1) (ret := none) (by decide) rfl ?_
  intro p e s m args below meth c s₁ B hml hv
  obtain ⟨rfl, hsz, hlt, hK, hco⟩ := hv
  have hx := B.exec
  have hb := B.bytes
  have hr := B.returns
  have hts' := atoms_spec (ws := cws yk2 prog_4_method_1_code 1) B.pre
  have hts : ∀ w ∈ sx_tb, w.before _ s = true := fun w hw => hts' w (List.mem_cons_of_mem _ hw)
  have hown : s.vm.findClass RK2 = some m.cls := findClass_of_methodNamed B.named
  have hin : meth.name = "<init>" := (name_of_methodNamed B.named B.method).1
  have hcI : s.vm.findClass ("[" ++ (newarray.typeOf .int).toString) = some cI := (hK.1.1.2 0 _ rfl).2
  have hcJ : s.vm.findClass ("[" ++ (newarray.typeOf .long).toString) = some cJ := (hK.1.1.2 1 _ rfl).2
  have hcZ : s.vm.findClass ("[" ++ (newarray.typeOf .boolean).toString) = some cZ := (hK.1.1.2 2 _ rfl).2
  subst hsz
  have hS : va_S (cA h0 s.heap.size) s.heap s.heap [] := va_S.rf
  have hcs : cS D 2 h0 s.heap.size s.heap (fun k => defaultValue (tyK2 k)) [] := ⟨rfl, hco, fun i P hi => (by cases hi), hlt⟩
  have hl := lv_entry ([.ref h0]) (n := 1) (Nat.le_of_ble_eq_true rfl)
  rw [lg_entry_eq]
  generalize (lg_sl ([.ref h0]) ++ List.replicate (1 - (lg_sl ([.ref h0])).length) Slot.unset).toArray = ls at hl ⊢
  have hl : lv_has ls 1 [(0, .ref h0)] := hl
  refine lv_aload_n hx hb (k := 0) (by decide +kernel) rfl (lv_at hl 0 rfl) ?_
  refine W.objInit hx hb hown (hts (.methodLink RK2 3 objectInit) (sx_in_mem (i := 91) (by decide +kernel))) (hts _ wo_i) (hts _ wo_c) rfl (by rw [hml]; exact hl.1) rfl dk2 (Nat.le_of_ble_eq_true rfl) (Nat.le_of_ble_eq_true rfl) ?_
  refine W.eq (g2 := F0 m 4 ls []) rfl ?_
  refine lv_aload_n hx hb (k := 0) (by decide +kernel) rfl (lv_at hl 0 rfl) ?_
  refine ct_new (index := 9) (C := RK0) (T := TK0) (N := 2) (V0 := fun k => defaultValue (tyK0 k)) hx hb hown hts hK.1 (ci' := 0) rfl (sx_in_mem (i := 92) (by decide +kernel)) (sx_in_mem (i := 93) (by decide +kernel)) wi0.1 tyK0 tyK0_ok (fun k _ => rfl) (Nat.le_of_ble_eq_true rfl) (Nat.le_of_ble_eq_true rfl) hcs hS (by decide +kernel) (fun H hcs hS => ?_)
  refine lv_dup hx hb (by decide +kernel) rfl ?_
  refine lv_sipush (n := 8192) (v := 8192) hx hb (by decide +kernel) (by decide) ?_
  refine ct_call (As := [.int 8192]) (cs := []) (rest := [.ref (s.heap.size + 0), .ref h0]) (y := yk0) (own := RK2) (index := 11) (n := 1) hx hb hml hown hts hK (k_0 l D cI cJ cZ _ _ 1024 (by decide)) wk0 wi0.1 (Or.inl (sx_in_mem (i := 94) (by decide +kernel))) wi0.2 rfl rfl rfl (by decide +kernel) ⟨Nat.le_of_ble_eq_true rfl, Nat.le_of_ble_eq_true rfl⟩ rfl hl.1 (Nat.le_of_ble_eq_true rfl) ⟨Nat.le_of_ble_eq_true rfl, Nat.le_of_ble_eq_true rfl⟩ hcs hS rfl (by decide +kernel) (fun H locs hcs hS => ?_)
  refine ct_putF (k := 0) (index := 14) hx hb hown hts hK.1 hin rfl (by decide) (sx_in_mem (i := 111) (by decide +kernel)) rfl rfl rfl rfl rfl hcs hS (by decide +kernel) (fun H locs hcs hS => ?_)
  have hcs : cS D 2 h0 s.heap.size H (updV (fun k => defaultValue (tyK2 k)) 0 (.ref (s.heap.size + 0))) [co D 0 (updV (fun k => defaultValue (tyK0 k)) 1 (.ref (s.heap.size + 0 + 1 + 0))), ca cJ 1024 (.long 0)] := hcs
  refine lv_aload_n hx hb (k := 0) (by decide +kernel) rfl (lv_at hl 0 rfl) ?_
  refine lv_iconst (n := 5) (v := 5) hx hb (by decide +kernel) (by decide) ?_
  refine ct_newa (atype := .int) (N := 5) hx hb hts wa_int hcI (by decide) (by decide) (by decide) (Nat.le_of_ble_eq_true rfl) (Nat.le_of_ble_eq_true rfl) hcs hS (by decide +kernel) (fun H hcs hS => ?_)
  refine ct_putF (k := 3) (index := 20) hx hb hown hts hK.1 hin rfl (by decide) (sx_in_mem (i := 117) (by decide +kernel)) rfl rfl rfl rfl rfl hcs hS (by decide +kernel) (fun H locs hcs hS => ?_)
  have hcs : cS D 2 h0 s.heap.size H (updV (updV (fun k => defaultValue (tyK2 k)) 0 (.ref (s.heap.size + 0))) 3 (.ref (s.heap.size + 2))) [co D 0 (updV (fun k => defaultValue (tyK0 k)) 1 (.ref (s.heap.size + 0 + 1 + 0))), ca cJ 1024 (.long 0), ca cI 5 (.int 0)] := hcs
  refine lv_aload_n hx hb (k := 0) (by decide +kernel) rfl (lv_at hl 0 rfl) ?_
  refine lv_iconst (n := 5) (v := 5) hx hb (by decide +kernel) (by decide) ?_
  refine ct_newa (atype := .int) (N := 5) hx hb hts wa_int hcI (by decide) (by decide) (by decide) (Nat.le_of_ble_eq_true rfl) (Nat.le_of_ble_eq_true rfl) hcs hS (by decide +kernel) (fun H hcs hS => ?_)
  refine ct_putF (k := 4) (index := 24) hx hb hown hts hK.1 hin rfl (by decide) (sx_in_mem (i := 118) (by decide +kernel)) rfl rfl rfl rfl rfl hcs hS (by decide +kernel) (fun H locs hcs hS => ?_)
  have hcs : cS D 2 h0 s.heap.size H (updV (updV (updV (fun k => defaultValue (tyK2 k)) 0 (.ref (s.heap.size + 0))) 3 (.ref (s.heap.size + 2))) 4 (.ref (s.heap.size + 3))) [co D 0 (updV (fun k => defaultValue (tyK0 k)) 1 (.ref (s.heap.size + 0 + 1 + 0))), ca cJ 1024 (.long 0), ca cI 5 (.int 0), ca cI 5 (.int 0)] := hcs
  exact W.vret hx hb hr (fun t ht hW => ⟨⟨rfl, by rw [ht]; exact hcs.1, by rw [ht]; exact hcs.2.1, by rw [ht]; exact hcs.2.2.1⟩, hS.F ht⟩) hS.2.2 (by decide +kernel)
def yk5 : MethodName := ⟨"GateText$Writer", "<init>", "()V"⟩
theorem wk5 : Cond.code yk5 prog_7_method_1_code 1 none ∈ sx_tb := sx_in_mem (i := 179) (by decide +kernel)
theorem wi5 : Cond.initialized "GateText$Writer" ∈ sx_tb ∧ Cond.instanceMethod yk5 ∈ sx_tb := ⟨sx_in_mem (i := 68) (by decide +kernel), sx_in_mem (i := 178) (by decide +kernel)⟩
theorem tyK5_ok : ∀ k, k < 1 → parseFieldDescriptor (TK5 k).2.2.1 = some (tyK5 k) := by decide +kernel
theorem dk5 : decode prog_7_method_1_code 1 = .ok (.invokespecial 3, 3) := by decide +kernel
set_option maxHeartbeats 4000000 in
set_option maxRecDepth 100000 in
theorem k_5 (l : Launch) (D : va_G) (cI cJ cZ : ClassId) (h0 sz : Nat) : Met l yk5 (cws yk5 prog_7_method_1_code 1) ({ frames := 2, cells := 2, slots := 514, locals := 42 }) (cPc D cI cJ cZ 5 h0 sz (fun k => defaultValue (tyK5 k)) []) (cQc D 5 h0 sz (updV (fun k => defaultValue (tyK5 k)) 0 (.ref (sz + 0))) [co D 0 (updV (fun k => defaultValue (tyK0 k)) 1 (.ref (sz + 0 + 1 + 0))), ca cJ 512 (.long 0)]) (2) (514) (cA h0 sz) := by
  refine Met.ofW (cc := prog_7_method_1_code) (maxL := 1) (ret := none) (by decide) rfl ?_
  intro p e s m args below meth c s₁ B hml hv
  obtain ⟨rfl, hsz, hlt, hK, hco⟩ := hv
  have hx := B.exec
  have hb := B.bytes
  have hr := B.returns
  have hts' := atoms_spec (ws := cws yk5 prog_7_method_1_code 1) B.pre
  have hts : ∀ w ∈ sx_tb, w.before _ s = true := fun w hw => hts' w (List.mem_cons_of_mem _ hw)
  have hown : s.vm.findClass RK5 = some m.cls := findClass_of_methodNamed B.named
  have hin : meth.name = "<init>" := (name_of_methodNamed B.named B.method).1
  have hcI : s.vm.findClass ("[" ++ (newarray.typeOf .int).toString) = some cI := (hK.1.1.2 0 _ rfl).2
  have hcJ : s.vm.findClass ("[" ++ (newarray.typeOf .long).toString) = some cJ := (hK.1.1.2 1 _ rfl).2
  have hcZ : s.vm.findClass ("[" ++ (newarray.typeOf .boolean).toString) = some cZ := (hK.1.1.2 2 _ rfl).2
  subst hsz
  have hS : va_S (cA h0 s.heap.size) s.heap s.heap [] := va_S.rf
  have hcs : cS D 5 h0 s.heap.size s.heap (fun k => defaultValue (tyK5 k)) [] := ⟨rfl, hco, fun i P hi => (by cases hi), hlt⟩
  have hl := lv_entry ([.ref h0]) (n := 1) (Nat.le_of_ble_eq_true rfl)
  rw [lg_entry_eq]
  generalize (lg_sl ([.ref h0]) ++ List.replicate (1 - (lg_sl ([.ref h0])).length) Slot.unset).toArray = ls at hl ⊢
  have hl : lv_has ls 1 [(0, .ref h0)] := hl
  refine lv_aload_n hx hb (k := 0) (by decide +kernel) rfl (lv_at hl 0 rfl) ?_
  refine W.objInit hx hb hown (hts (.methodLink RK5 3 objectInit) (sx_in_mem (i := 180) (by decide +kernel))) (hts _ wo_i) (hts _ wo_c) rfl (by rw [hml]; exact hl.1) rfl dk5 (Nat.le_of_ble_eq_true rfl) (Nat.le_of_ble_eq_true rfl) ?_
  refine W.eq (g2 := F0 m 4 ls []) rfl ?_
  refine lv_aload_n hx hb (k := 0) (by decide +kernel) rfl (lv_at hl 0 rfl) ?_
  refine ct_new (index := 9) (C := RK0) (T := TK0) (N := 2) (V0 := fun k => defaultValue (tyK0 k)) hx hb hown hts hK.1 (ci' := 0) rfl (sx_in_mem (i := 181) (by decide +kernel)) (sx_in_mem (i := 93) (by decide +kernel)) wi0.1 tyK0 tyK0_ok (fun k _ => rfl) (Nat.le_of_ble_eq_true rfl) (Nat.le_of_ble_eq_true rfl) hcs hS (by decide +kernel) (fun H hcs hS => ?_)
  refine lv_dup hx hb (by decide +kernel) rfl ?_
  refine lv_sipush (n := 4096) (v := 4096) hx hb (by decide +kernel) (by decide) ?_
  refine ct_call (As := [.int 4096]) (cs := []) (rest := [.ref (s.heap.size + 0), .ref h0]) (y := yk0) (own := RK5) (index := 11) (n := 1) hx hb hml hown hts hK (k_0 l D cI cJ cZ _ _ 512 (by decide)) wk0 wi0.1 (Or.inl (sx_in_mem (i := 182) (by decide +kernel))) wi0.2 rfl rfl rfl (by decide +kernel) ⟨Nat.le_of_ble_eq_true rfl, Nat.le_of_ble_eq_true rfl⟩ rfl hl.1 (Nat.le_of_ble_eq_true rfl) ⟨Nat.le_of_ble_eq_true rfl, Nat.le_of_ble_eq_true rfl⟩ hcs hS rfl (by decide +kernel) (fun H locs hcs hS => ?_)
  refine ct_putF (k := 0) (index := 14) hx hb hown hts hK.1 hin rfl (by decide) (sx_in_mem (i := 183) (by decide +kernel)) rfl rfl rfl rfl rfl hcs hS (by decide +kernel) (fun H locs hcs hS => ?_)
  have hcs : cS D 5 h0 s.heap.size H (updV (fun k => defaultValue (tyK5 k)) 0 (.ref (s.heap.size + 0))) [co D 0 (updV (fun k => defaultValue (tyK0 k)) 1 (.ref (s.heap.size + 0 + 1 + 0))), ca cJ 512 (.long 0)] := hcs
  exact W.vret hx hb hr (fun t ht hW => ⟨⟨rfl, by rw [ht]; exact hcs.1, by rw [ht]; exact hcs.2.1, by rw [ht]; exact hcs.2.2.1⟩, hS.F ht⟩) hS.2.2 (by decide +kernel)
def yk6 : MethodName := ⟨"GateText", "<init>", "()V"⟩
theorem wk6 : Cond.code yk6 prog_1_method_1_code 1 none ∈ sx_tb := sx_in_mem (i := 82) (by decide +kernel)
theorem wi6 : Cond.initialized "GateText" ∈ sx_tb ∧ Cond.instanceMethod yk6 ∈ sx_tb := ⟨sx_in_mem (i := 62) (by decide +kernel), sx_in_mem (i := 81) (by decide +kernel)⟩
theorem tyK6_ok : ∀ k, k < 6 → parseFieldDescriptor (TK6 k).2.2.1 = some (tyK6 k) := by decide +kernel
theorem dk6 : decode prog_1_method_1_code 1 = .ok (.invokespecial 3, 3) := by decide +kernel
set_option maxHeartbeats 4000000 in
set_option maxRecDepth 100000 in
theorem k_6 (l : Launch) (D : va_G) (cI cJ cZ : ClassId) (h0 sz : Nat) : Met l yk6 (cws yk6 prog_1_method_1_code 1) ({ frames := 3, cells := 38, slots := 9821, locals := 62 }) (cPc D cI cJ cZ 6 h0 sz (fun k => defaultValue (tyK6 k)) []) (cQc D 6 h0 sz (updV (updV (updV (updV (updV (updV (fun k => defaultValue (tyK6 k)) 0 (.ref (sz + 0))) 1 (.ref (sz + 5))) 2 (.ref (sz + 9))) 3 (.ref (sz + 13))) 4 (.ref (sz + 16))) 5 (.ref (sz + 27))) [co D 2 (updV (updV (updV (fun k => defaultValue (tyK2 k)) 0 (.ref ((sz + 0 + 1) + 0))) 3 (.ref ((sz + 0 + 1) + 2))) 4 (.ref ((sz + 0 + 1) + 3))), co D 0 (updV (fun k => defaultValue (tyK0 k)) 1 (.ref ((sz + 0 + 1) + 0 + 1 + 0))), ca cJ 1024 (.long 0), ca cI 5 (.int 0), ca cI 5 (.int 0), co D 3 (updV (updV (updV (fun k => defaultValue (tyK3 k)) 0 (.ref ((sz + 5 + 1) + 0))) 2 (.ref ((sz + 5 + 1) + 1))) 4 (.ref ((sz + 5 + 1) + 2))), ca cI 300 (.int 0), ca cI 300 (.int 0), ca cI 300 (.int 0), co D 4 (updV (updV (updV (fun k => defaultValue (tyK4 k)) 0 (.ref ((sz + 9 + 1) + 0))) 1 (.ref ((sz + 9 + 1) + 1))) 2 (.ref ((sz + 9 + 1) + 2))), ca cI 315 (.int 0), ca cI 315 (.int 0), ca cI 315 (.int 0), co D 5 (updV (fun k => defaultValue (tyK5 k)) 0 (.ref ((sz + 13 + 1) + 0))), co D 0 (updV (fun k => defaultValue (tyK0 k)) 1 (.ref ((sz + 13 + 1) + 0 + 1 + 0))), ca cJ 512 (.long 0), co D 1 (updV (updV (updV (updV (updV (updV (updV (updV (updV (updV (fun k => defaultValue (tyK1 k)) 4 (.ref ((sz + 16 + 1) + 0))) 5 (.ref ((sz + 16 + 1) + 1))) 6 (.ref ((sz + 16 + 1) + 2))) 7 (.ref ((sz + 16 + 1) + 3))) 8 (.ref ((sz + 16 + 1) + 4))) 9 (.ref ((sz + 16 + 1) + 5))) 10 (.ref ((sz + 16 + 1) + 6))) 11 (.ref ((sz + 16 + 1) + 7))) 12 (.ref ((sz + 16 + 1) + 8))) 13 (.ref ((sz + 16 + 1) + 9))), ca cI 14 (.int 0), ca cI 16 (.int 0), ca cI 300 (.int 0), ca cI 300 (.int 0), ca cI 300 (.int 0), ca cI 315 (.int 0), ca cI 1001 (.int 0), ca cI 315 (.int 0), ca cI 315 (.int 0), ca cI 315 (.int 0), co D 1 (updV (updV (updV (updV (updV (updV (updV (updV (updV (updV (fun k => defaultValue (tyK1 k)) 4 (.ref ((sz + 27 + 1) + 0))) 5 (.ref ((sz + 27 + 1) + 1))) 6 (.ref ((sz + 27 + 1) + 2))) 7 (.ref ((sz + 27 + 1) + 3))) 8 (.ref ((sz + 27 + 1) + 4))) 9 (.ref ((sz + 27 + 1) + 5))) 10 (.ref ((sz + 27 + 1) + 6))) 11 (.ref ((sz + 27 + 1) + 7))) 12 (.ref ((sz + 27 + 1) + 8))) 13 (.ref ((sz + 27 + 1) + 9))), ca cI 14 (.int 0), ca cI 16 (.int 0), ca cI 300 (.int 0), ca cI 300 (.int 0), ca cI 300 (.int 0), ca cI 315 (.int 0), ca cI 1001 (.int 0), ca cI 315 (.int 0), ca cI 315 (.int 0), ca cI 315 (.int 0)]) (38) (9821) (cA h0 sz) := by
  refine Met.ofW (cc := prog_1_method_1_code) (maxL := 1) (ret := none) (by decide) rfl ?_
  intro p e s m args below meth c s₁ B hml hv
  obtain ⟨rfl, hsz, hlt, hK, hco⟩ := hv
  have hx := B.exec
  have hb := B.bytes
  have hr := B.returns
  have hts' := atoms_spec (ws := cws yk6 prog_1_method_1_code 1) B.pre
  have hts : ∀ w ∈ sx_tb, w.before _ s = true := fun w hw => hts' w (List.mem_cons_of_mem _ hw)
  have hown : s.vm.findClass RK6 = some m.cls := findClass_of_methodNamed B.named
  have hin : meth.name = "<init>" := (name_of_methodNamed B.named B.method).1
  have hcI : s.vm.findClass ("[" ++ (newarray.typeOf .int).toString) = some cI := (hK.1.1.2 0 _ rfl).2
  have hcJ : s.vm.findClass ("[" ++ (newarray.typeOf .long).toString) = some cJ := (hK.1.1.2 1 _ rfl).2
  have hcZ : s.vm.findClass ("[" ++ (newarray.typeOf .boolean).toString) = some cZ := (hK.1.1.2 2 _ rfl).2
  subst hsz
  have hS : va_S (cA h0 s.heap.size) s.heap s.heap [] := va_S.rf
  have hcs : cS D 6 h0 s.heap.size s.heap (fun k => defaultValue (tyK6 k)) [] := ⟨rfl, hco, fun i P hi => (by cases hi), hlt⟩
  have hl := lv_entry ([.ref h0]) (n := 1) (Nat.le_of_ble_eq_true rfl)
  rw [lg_entry_eq]
  generalize (lg_sl ([.ref h0]) ++ List.replicate (1 - (lg_sl ([.ref h0])).length) Slot.unset).toArray = ls at hl ⊢
  have hl : lv_has ls 1 [(0, .ref h0)] := hl
  refine lv_aload_n hx hb (k := 0) (by decide +kernel) rfl (lv_at hl 0 rfl) ?_
  refine W.objInit hx hb hown (hts (.methodLink RK6 3 objectInit) (sx_in_mem (i := 83) (by decide +kernel))) (hts _ wo_i) (hts _ wo_c) rfl (by rw [hml]; exact hl.1) rfl dk6 (Nat.le_of_ble_eq_true rfl) (Nat.le_of_ble_eq_true rfl) ?_
  refine W.eq (g2 := F0 m 4 ls []) rfl ?_
  refine lv_aload_n hx hb (k := 0) (by decide +kernel) rfl (lv_at hl 0 rfl) ?_
  refine ct_new (index := 9) (C := RK2) (T := TK2) (N := 7) (V0 := fun k => defaultValue (tyK2 k)) hx hb hown hts hK.1 (ci' := 2) rfl (sx_in_mem (i := 86) (by decide +kernel)) (sx_in_mem (i := 87) (by decide +kernel)) wi2.1 tyK2 tyK2_ok (fun k _ => rfl) (Nat.le_of_ble_eq_true rfl) (Nat.le_of_ble_eq_true rfl) hcs hS (by decide +kernel) (fun H hcs hS => ?_)
  refine lv_dup hx hb (by decide +kernel) rfl ?_
  refine ct_call (As := []) (cs := []) (rest := [.ref (s.heap.size + 0), .ref h0]) (y := yk2) (own := RK6) (index := 11) (n := 0) hx hb hml hown hts hK (k_2 l D cI cJ cZ _ _) wk2 wi2.1 (Or.inr (by decide +kernel)) wi2.2 rfl rfl rfl (by decide +kernel) ⟨Nat.le_of_ble_eq_true rfl, Nat.le_of_ble_eq_true rfl⟩ rfl hl.1 (Nat.le_of_ble_eq_true rfl) ⟨Nat.le_of_ble_eq_true rfl, Nat.le_of_ble_eq_true rfl⟩ hcs hS rfl (by decide +kernel) (fun H locs hcs hS => ?_)
  refine ct_putF (k := 0) (index := 12) hx hb hown hts hK.1 hin rfl (by decide) (sx_in_mem (i := 263) (by decide +kernel)) rfl rfl rfl rfl rfl hcs hS (by decide +kernel) (fun H locs hcs hS => ?_)
  have hcs : cS D 6 h0 s.heap.size H (updV (fun k => defaultValue (tyK6 k)) 0 (.ref (s.heap.size + 0))) [co D 2 (updV (updV (updV (fun k => defaultValue (tyK2 k)) 0 (.ref ((s.heap.size + 0 + 1) + 0))) 3 (.ref ((s.heap.size + 0 + 1) + 2))) 4 (.ref ((s.heap.size + 0 + 1) + 3))), co D 0 (updV (fun k => defaultValue (tyK0 k)) 1 (.ref ((s.heap.size + 0 + 1) + 0 + 1 + 0))), ca cJ 1024 (.long 0), ca cI 5 (.int 0), ca cI 5 (.int 0)] := hcs
  refine lv_aload_n hx hb (k := 0) (by decide +kernel) rfl (lv_at hl 0 rfl) ?_
  refine ct_new (index := 16) (C := RK3) (T := TK3) (N := 5) (V0 := fun k => defaultValue (tyK3 k)) hx hb hown hts hK.1 (ci' := 3) rfl (sx_in_mem (i := 137) (by decide +kernel)) (sx_in_mem (i := 138) (by decide +kernel)) wi3.1 tyK3 tyK3_ok (fun k _ => rfl) (Nat.le_of_ble_eq_true rfl) (Nat.le_of_ble_eq_true rfl) hcs hS (by decide +kernel) (fun H hcs hS => ?_)
  refine lv_dup hx hb (by decide +kernel) rfl ?_
  refine ct_call (As := []) (cs := [co D 2 (updV (updV (updV (fun k => defaultValue (tyK2 k)) 0 (.ref ((s.heap.size + 0 + 1) + 0))) 3 (.ref ((s.heap.size + 0 + 1) + 2))) 4 (.ref ((s.heap.size + 0 + 1) + 3))), co D 0 (updV (fun k => defaultValue (tyK0 k)) 1 (.ref ((s.heap.size + 0 + 1) + 0 + 1 + 0))), ca cJ 1024 (.long 0), ca cI 5 (.int 0), ca cI 5 (.int 0)]) (rest := [.ref (s.heap.size + 5), .ref h0]) (y := yk3) (own := RK6) (index := 18) (n := 0) hx hb hml hown hts hK (k_3 l D cI cJ cZ _ _) wk3 wi3.1 (Or.inr (by decide +kernel)) wi3.2 rfl rfl rfl (by decide +kernel) ⟨Nat.le_of_ble_eq_true rfl, Nat.le_of_ble_eq_true rfl⟩ rfl hl.1 (Nat.le_of_ble_eq_true rfl) ⟨Nat.le_of_ble_eq_true rfl, Nat.le_of_ble_eq_true rfl⟩ hcs hS rfl (by decide +kernel) (fun H locs hcs hS => ?_)
  refine ct_putF (k := 1) (index := 19) hx hb hown hts hK.1 hin rfl (by decide) (sx_in_mem (i := 264) (by decide +kernel)) rfl rfl rfl rfl rfl hcs hS (by decide +kernel) (fun H locs hcs hS => ?_)
  have hcs : cS D 6 h0 s.heap.size H (updV (updV (fun k => defaultValue (tyK6 k)) 0 (.ref (s.heap.size + 0))) 1 (.ref (s.heap.size + 5))) [co D 2 (updV (updV (updV (fun k => defaultValue (tyK2 k)) 0 (.ref ((s.heap.size + 0 + 1) + 0))) 3 (.ref ((s.heap.size + 0 + 1) + 2))) 4 (.ref ((s.heap.size + 0 + 1) + 3))), co D 0 (updV (fun k => defaultValue (tyK0 k)) 1 (.ref ((s.heap.size + 0 + 1) + 0 + 1 + 0))), ca cJ 1024 (.long 0), ca cI 5 (.int 0), ca cI 5 (.int 0), co D 3 (updV (updV (updV (fun k => defaultValue (tyK3 k)) 0 (.ref ((s.heap.size + 5 + 1) + 0))) 2 (.ref ((s.heap.size + 5 + 1) + 1))) 4 (.ref ((s.heap.size + 5 + 1) + 2))), ca cI 300 (.int 0), ca cI 300 (.int 0), ca cI 300 (.int 0)] := hcs
  refine lv_aload_n hx hb (k := 0) (by decide +kernel) rfl (lv_at hl 0 rfl) ?_
  refine ct_new (index := 23) (C := RK4) (T := TK4) (N := 3) (V0 := fun k => defaultValue (tyK4 k)) hx hb hown hts hK.1 (ci' := 4) rfl (sx_in_mem (i := 159) (by decide +kernel)) (sx_in_mem (i := 160) (by decide +kernel)) wi4.1 tyK4 tyK4_ok (fun k _ => rfl) (Nat.le_of_ble_eq_true rfl) (Nat.le_of_ble_eq_true rfl) hcs hS (by decide +kernel) (fun H hcs hS => ?_)
  refine lv_dup hx hb (by decide +kernel) rfl ?_
  refine ct_call (As := []) (cs := [co D 2 (updV (updV (updV (fun k => defaultValue (tyK2 k)) 0 (.ref ((s.heap.size + 0 + 1) + 0))) 3 (.ref ((s.heap.size + 0 + 1) + 2))) 4 (.ref ((s.heap.size + 0 + 1) + 3))), co D 0 (updV (fun k => defaultValue (tyK0 k)) 1 (.ref ((s.heap.size + 0 + 1) + 0 + 1 + 0))), ca cJ 1024 (.long 0), ca cI 5 (.int 0), ca cI 5 (.int 0), co D 3 (updV (updV (updV (fun k => defaultValue (tyK3 k)) 0 (.ref ((s.heap.size + 5 + 1) + 0))) 2 (.ref ((s.heap.size + 5 + 1) + 1))) 4 (.ref ((s.heap.size + 5 + 1) + 2))), ca cI 300 (.int 0), ca cI 300 (.int 0), ca cI 300 (.int 0)]) (rest := [.ref (s.heap.size + 9), .ref h0]) (y := yk4) (own := RK6) (index := 25) (n := 0) hx hb hml hown hts hK (k_4 l D cI cJ cZ _ _) wk4 wi4.1 (Or.inr (by decide +kernel)) wi4.2 rfl rfl rfl (by decide +kernel) ⟨Nat.le_of_ble_eq_true rfl, Nat.le_of_ble_eq_true rfl⟩ rfl hl.1 (Nat.le_of_ble_eq_true rfl) ⟨Nat.le_of_ble_eq_true rfl, Nat.le_of_ble_eq_true rfl⟩ hcs hS rfl (by decide +kernel) (fun H locs hcs hS => ?_)
  refine ct_putF (k := 2) (index := 26) hx hb hown hts hK.1 hin rfl (by decide) (sx_in_mem (i := 265) (by decide +kernel)) rfl rfl rfl rfl rfl hcs hS (by decide +kernel) (fun H locs hcs hS => ?_)
  have hcs : cS D 6 h0 s.heap.size H (updV (updV (updV (fun k => defaultValue (tyK6 k)) 0 (.ref (s.heap.size + 0))) 1 (.ref (s.heap.size + 5))) 2 (.ref (s.heap.size + 9))) [co D 2 (updV (updV (updV (fun k => defaultValue (tyK2 k)) 0 (.ref ((s.heap.size + 0 + 1) + 0))) 3 (.ref ((s.heap.size + 0 + 1) + 2))) 4 (.ref ((s.heap.size + 0 + 1) + 3))), co D 0 (updV (fun k => defaultValue (tyK0 k)) 1 (.ref ((s.heap.size + 0 + 1) + 0 + 1 + 0))), ca cJ 1024 (.long 0), ca cI 5 (.int 0), ca cI 5 (.int 0), co D 3 (updV (updV (updV (fun k => defaultValue (tyK3 k)) 0 (.ref ((s.heap.size + 5 + 1) + 0))) 2 (.ref ((s.heap.size + 5 + 1) + 1))) 4 (.ref ((s.heap.size + 5 + 1) + 2))), ca cI 300 (.int 0), ca cI 300 (.int 0), ca cI 300 (.int 0), co D 4 (updV (updV (updV (fun k => defaultValue (tyK4 k)) 0 (.ref ((s.heap.size + 9 + 1) + 0))) 1 (.ref ((s.heap.size + 9 + 1) + 1))) 2 (.ref ((s.heap.size + 9 + 1) + 2))), ca cI 315 (.int 0), ca cI 315 (.int 0), ca cI 315 (.int 0)] := hcs
  refine lv_aload_n hx hb (k := 0) (by decide +kernel) rfl (lv_at hl 0 rfl) ?_
  refine ct_new (index := 30) (C := RK5) (T := TK5) (N := 1) (V0 := fun k => defaultValue (tyK5 k)) hx hb hown hts hK.1 (ci' := 5) rfl (sx_in_mem (i := 175) (by decide +kernel)) (sx_in_mem (i := 176) (by decide +kernel)) wi5.1 tyK5 tyK5_ok (fun k _ => rfl) (Nat.le_of_ble_eq_true rfl) (Nat.le_of_ble_eq_true rfl) hcs hS (by decide +kernel) (fun H hcs hS => ?_)
  refine lv_dup hx hb (by decide +kernel) rfl ?_
  refine ct_call (As := []) (cs := [co D 2 (updV (updV (updV (fun k => defaultValue (tyK2 k)) 0 (.ref ((s.heap.size + 0 + 1) + 0))) 3 (.ref ((s.heap.size + 0 + 1) + 2))) 4 (.ref ((s.heap.size + 0 + 1) + 3))), co D 0 (updV (fun k => defaultValue (tyK0 k)) 1 (.ref ((s.heap.size + 0 + 1) + 0 + 1 + 0))), ca cJ 1024 (.long 0), ca cI 5 (.int 0), ca cI 5 (.int 0), co D 3 (updV (updV (updV (fun k => defaultValue (tyK3 k)) 0 (.ref ((s.heap.size + 5 + 1) + 0))) 2 (.ref ((s.heap.size + 5 + 1) + 1))) 4 (.ref ((s.heap.size + 5 + 1) + 2))), ca cI 300 (.int 0), ca cI 300 (.int 0), ca cI 300 (.int 0), co D 4 (updV (updV (updV (fun k => defaultValue (tyK4 k)) 0 (.ref ((s.heap.size + 9 + 1) + 0))) 1 (.ref ((s.heap.size + 9 + 1) + 1))) 2 (.ref ((s.heap.size + 9 + 1) + 2))), ca cI 315 (.int 0), ca cI 315 (.int 0), ca cI 315 (.int 0)]) (rest := [.ref (s.heap.size + 13), .ref h0]) (y := yk5) (own := RK6) (index := 32) (n := 0) hx hb hml hown hts hK (k_5 l D cI cJ cZ _ _) wk5 wi5.1 (Or.inr (by decide +kernel)) wi5.2 rfl rfl rfl (by decide +kernel) ⟨Nat.le_of_ble_eq_true rfl, Nat.le_of_ble_eq_true rfl⟩ rfl hl.1 (Nat.le_of_ble_eq_true rfl) ⟨Nat.le_of_ble_eq_true rfl, Nat.le_of_ble_eq_true rfl⟩ hcs hS rfl (by decide +kernel) (fun H locs hcs hS => ?_)
  refine ct_putF (k := 3) (index := 33) hx hb hown hts hK.1 hin rfl (by decide) (sx_in_mem (i := 266) (by decide +kernel)) rfl rfl rfl rfl rfl hcs hS (by decide +kernel) (fun H locs hcs hS => ?_)
  have hcs : cS D 6 h0 s.heap.size H (updV (updV (updV (updV (fun k => defaultValue (tyK6 k)) 0 (.ref (s.heap.size + 0))) 1 (.ref (s.heap.size + 5))) 2 (.ref (s.heap.size + 9))) 3 (.ref (s.heap.size + 13))) [co D 2 (updV (updV (updV (fun k => defaultValue (tyK2 k)) 0 (.ref ((s.heap.size + 0 + 1) + 0))) 3 (.ref ((s.heap.size + 0 + 1) + 2))) 4 (.ref ((s.heap.size + 0 + 1) + 3))), co D 0 (updV (fun k => defaultValue (tyK0 k)) 1 (.ref ((s.heap.size + 0 + 1) + 0 + 1 + 0))), ca cJ 1024 (.long 0), ca cI 5 (.int 0), ca cI 5 (.int 0), co D 3 (updV (updV (updV (fun k => defaultValue (tyK3 k)) 0 (.ref ((s.heap.size + 5 + 1) + 0))) 2 (.ref ((s.heap.size + 5 + 1) + 1))) 4 (.ref ((s.heap.size + 5 + 1) + 2))), ca cI 300 (.int 0), ca cI 300 (.int 0), ca cI 300 (.int 0), co D 4 (updV (updV (updV (fun k => defaultValue (tyK4 k)) 0 (.ref ((s.heap.size + 9 + 1) + 0))) 1 (.ref ((s.heap.size + 9 + 1) + 1))) 2 (.ref ((s.heap.size + 9 + 1) + 2))), ca cI 315 (.int 0), ca cI 315 (.int 0), ca cI 315 (.int 0), co D 5 (updV (fun k => defaultValue (tyK5 k)) 0 (.ref ((s.heap.size + 13 + 1) + 0))), co D 0 (updV (fun k => defaultValue (tyK0 k)) 1 (.ref ((s.heap.size + 13 + 1) + 0 + 1 + 0))), ca cJ 512 (.long 0)] := hcs
  refine lv_aload_n hx hb (k := 0) (by decide +kernel) rfl (lv_at hl 0 rfl) ?_
  refine ct_new (index := 37) (C := RK1) (T := TK1) (N := 14) (V0 := fun k => defaultValue (tyK1 k)) hx hb hown hts hK.1 (ci' := 1) rfl (sx_in_mem (i := 188) (by decide +kernel)) (sx_in_mem (i := 189) (by decide +kernel)) wi1.1 tyK1 tyK1_ok (fun k _ => rfl) (Nat.le_of_ble_eq_true rfl) (Nat.le_of_ble_eq_true rfl) hcs hS (by decide +kernel) (fun H hcs hS => ?_)
  refine lv_dup hx hb (by decide +kernel) rfl ?_
  refine ct_call (As := []) (cs := [co D 2 (updV (updV (updV (fun k => defaultValue (tyK2 k)) 0 (.ref ((s.heap.size + 0 + 1) + 0))) 3 (.ref ((s.heap.size + 0 + 1) + 2))) 4 (.ref ((s.heap.size + 0 + 1) + 3))), co D 0 (updV (fun k => defaultValue (tyK0 k)) 1 (.ref ((s.heap.size + 0 + 1) + 0 + 1 + 0))), ca cJ 1024 (.long 0), ca cI 5 (.int 0), ca cI 5 (.int 0), co D 3 (updV (updV (updV (fun k => defaultValue (tyK3 k)) 0 (.ref ((s.heap.size + 5 + 1) + 0))) 2 (.ref ((s.heap.size + 5 + 1) + 1))) 4 (.ref ((s.heap.size + 5 + 1) + 2))), ca cI 300 (.int 0), ca cI 300 (.int 0), ca cI 300 (.int 0), co D 4 (updV (updV (updV (fun k => defaultValue (tyK4 k)) 0 (.ref ((s.heap.size + 9 + 1) + 0))) 1 (.ref ((s.heap.size + 9 + 1) + 1))) 2 (.ref ((s.heap.size + 9 + 1) + 2))), ca cI 315 (.int 0), ca cI 315 (.int 0), ca cI 315 (.int 0), co D 5 (updV (fun k => defaultValue (tyK5 k)) 0 (.ref ((s.heap.size + 13 + 1) + 0))), co D 0 (updV (fun k => defaultValue (tyK0 k)) 1 (.ref ((s.heap.size + 13 + 1) + 0 + 1 + 0))), ca cJ 512 (.long 0)]) (rest := [.ref (s.heap.size + 16), .ref h0]) (y := yk1) (own := RK6) (index := 39) (n := 0) hx hb hml hown hts hK (k_1 l D cI cJ cZ _ _) wk1 wi1.1 (Or.inr (by decide +kernel)) wi1.2 rfl rfl rfl (by decide +kernel) ⟨Nat.le_of_ble_eq_true rfl, Nat.le_of_ble_eq_true rfl⟩ rfl hl.1 (Nat.le_of_ble_eq_true rfl) ⟨Nat.le_of_ble_eq_true rfl, Nat.le_of_ble_eq_true rfl⟩ hcs hS rfl (by decide +kernel) (fun H locs hcs hS => ?_)
  refine ct_putN (k := 4) (index := 40) hx hb hown hts hK.1 rfl (by decide) (sx_in_mem (i := 267) (by decide +kernel)) rfl rfl rfl rfl rfl hcs hS (by decide +kernel) (fun H locs hcs hS => ?_)
  have hcs : cS D 6 h0 s.heap.size H (updV (updV (updV (updV (updV (fun k => defaultValue (tyK6 k)) 0 (.ref (s.heap.size + 0))) 1 (.ref (s.heap.size + 5))) 2 (.ref (s.heap.size + 9))) 3 (.ref (s.heap.size + 13))) 4 (.ref (s.heap.size + 16))) [co D 2 (updV (updV (updV (fun k => defaultValue (tyK2 k)) 0 (.ref ((s.heap.size + 0 + 1) + 0))) 3 (.ref ((s.heap.size + 0 + 1) + 2))) 4 (.ref ((s.heap.size + 0 + 1) + 3))), co D 0 (updV (fun k => defaultValue (tyK0 k)) 1 (.ref ((s.heap.size + 0 + 1) + 0 + 1 + 0))), ca cJ 1024 (.long 0), ca cI 5 (.int 0), ca cI 5 (.int 0), co D 3 (updV (updV (updV (fun k => defaultValue (tyK3 k)) 0 (.ref ((s.heap.size + 5 + 1) + 0))) 2 (.ref ((s.heap.size + 5 + 1) + 1))) 4 (.ref ((s.heap.size + 5 + 1) + 2))), ca cI 300 (.int 0), ca cI 300 (.int 0), ca cI 300 (.int 0), co D 4 (updV (updV (updV (fun k => defaultValue (tyK4 k)) 0 (.ref ((s.heap.size + 9 + 1) + 0))) 1 (.ref ((s.heap.size + 9 + 1) + 1))) 2 (.ref ((s.heap.size + 9 + 1) + 2))), ca cI 315 (.int 0), ca cI 315 (.int 0), ca cI 315 (.int 0), co D 5 (updV (fun k => defaultValue (tyK5 k)) 0 (.ref ((s.heap.size + 13 + 1) + 0))), co D 0 (updV (fun k => defaultValue (tyK0 k)) 1 (.ref ((s.heap.size + 13 + 1) + 0 + 1 + 0))), ca cJ 512 (.long 0), co D 1 (updV (updV (updV (updV (updV (updV (updV (updV (updV (updV (fun k => defaultValue (tyK1 k)) 4 (.ref ((s.heap.size + 16 + 1) + 0))) 5 (.ref ((s.heap.size + 16 + 1) + 1))) 6 (.ref ((s.heap.size + 16 + 1) + 2))) 7 (.ref ((s.heap.size + 16 + 1) + 3))) 8 (.ref ((s.heap.size + 16 + 1) + 4))) 9 (.ref ((s.heap.size + 16 + 1) + 5))) 10 (.ref ((s.heap.size + 16 + 1) + 6))) 11 (.ref ((s.heap.size + 16 + 1) + 7))) 12 (.ref ((s.heap.size + 16 + 1) + 8))) 13 (.ref ((s.heap.size + 16 + 1) + 9))), ca cI 14 (.int 0), ca cI 16 (.int 0), ca cI 300 (.int 0), ca cI 300 (.int 0), ca cI 300 (.int 0), ca cI 315 (.int 0), ca cI 1001 (.int 0), ca cI 315 (.int 0), ca cI 315 (.int 0), ca cI 315 (.int 0)] := hcs
  refine lv_aload_n hx hb (k := 0) (by decide +kernel) rfl (lv_at hl 0 rfl) ?_
  refine ct_new (index := 37) (C := RK1) (T := TK1) (N := 14) (V0 := fun k => defaultValue (tyK1 k)) hx hb hown hts hK.1 (ci' := 1) rfl (sx_in_mem (i := 188) (by decide +kernel)) (sx_in_mem (i := 189) (by decide +kernel)) wi1.1 tyK1 tyK1_ok (fun k _ => rfl) (Nat.le_of_ble_eq_true rfl) (Nat.le_of_ble_eq_true rfl) hcs hS (by decide +kernel) (fun H hcs hS => ?_)
  refine lv_dup hx hb (by decide +kernel) rfl ?_
  refine ct_call (As := []) (cs := [co D 2 (updV (updV (updV (fun k => defaultValue (tyK2 k)) 0 (.ref ((s.heap.size + 0 + 1) + 0))) 3 (.ref ((s.heap.size + 0 + 1) + 2))) 4 (.ref ((s.heap.size + 0 + 1) + 3))), co D 0 (updV (fun k => defaultValue (tyK0 k)) 1 (.ref ((s.heap.size + 0 + 1) + 0 + 1 + 0))), ca cJ 1024 (.long 0), ca cI 5 (.int 0), ca cI 5 (.int 0), co D 3 (updV (updV (updV (fun k => defaultValue (tyK3 k)) 0 (.ref ((s.heap.size + 5 + 1) + 0))) 2 (.ref ((s.heap.size + 5 + 1) + 1))) 4 (.ref ((s.heap.size + 5 + 1) + 2))), ca cI 300 (.int 0), ca cI 300 (.int 0), ca cI 300 (.int 0), co D 4 (updV (updV (updV (fun k => defaultValue (tyK4 k)) 0 (.ref ((s.heap.size + 9 + 1) + 0))) 1 (.ref ((s.heap.size + 9 + 1) + 1))) 2 (.ref ((s.heap.size + 9 + 1) + 2))), ca cI 315 (.int 0), ca cI 315 (.int 0), ca cI 315 (.int 0), co D 5 (updV (fun k => defaultValue (tyK5 k)) 0 (.ref ((s.heap.size + 13 + 1) + 0))), co D 0 (updV (fun k => defaultValue (tyK0 k)) 1 (.ref ((s.heap.size + 13 + 1) + 0 + 1 + 0))), ca cJ 512 (.long 0), co D 1 (updV (updV (updV (updV (updV (updV (updV (updV (updV (updV (fun k => defaultValue (tyK1 k)) 4 (.ref ((s.heap.size + 16 + 1) + 0))) 5 (.ref ((s.heap.size + 16 + 1) + 1))) 6 (.ref ((s.heap.size + 16 + 1) + 2))) 7 (.ref ((s.heap.size + 16 + 1) + 3))) 8 (.ref ((s.heap.size + 16 + 1) + 4))) 9 (.ref ((s.heap.size + 16 + 1) + 5))) 10 (.ref ((s.heap.size + 16 + 1) + 6))) 11 (.ref ((s.heap.size + 16 + 1) + 7))) 12 (.ref ((s.heap.size + 16 + 1) + 8))) 13 (.ref ((s.heap.size + 16 + 1) + 9))), ca cI 14 (.int 0), ca cI 16 (.int 0), ca cI 300 (.int 0), ca cI 300 (.int 0), ca cI 300 (.int 0), ca cI 315 (.int 0), ca cI 1001 (.int 0), ca cI 315 (.int 0), ca cI 315 (.int 0), ca cI 315 (.int 0)]) (rest := [.ref (s.heap.size + 27), .ref h0]) (y := yk1) (own := RK6) (index := 39) (n := 0) hx hb hml hown hts hK (k_1 l D cI cJ cZ _ _) wk1 wi1.1 (Or.inr (by decide +kernel)) wi1.2 rfl rfl rfl (by decide +kernel) ⟨Nat.le_of_ble_eq_true rfl, Nat.le_of_ble_eq_true rfl⟩ rfl hl.1 (Nat.le_of_ble_eq_true rfl) ⟨Nat.le_of_ble_eq_true rfl, Nat.le_of_ble_eq_true rfl⟩ hcs hS rfl (by decide +kernel) (fun H locs hcs hS => ?_)
  refine ct_putN (k := 5) (index := 44) hx hb hown hts hK.1 rfl (by decide) (sx_in_mem (i := 268) (by decide +kernel)) rfl rfl rfl rfl rfl hcs hS (by decide +kernel) (fun H locs hcs hS => ?_)
  have hcs : cS D 6 h0 s.heap.size H (updV (updV (updV (updV (updV (updV (fun k => defaultValue (tyK6 k)) 0 (.ref (s.heap.size + 0))) 1 (.ref (s.heap.size + 5))) 2 (.ref (s.heap.size + 9))) 3 (.ref (s.heap.size + 13))) 4 (.ref (s.heap.size + 16))) 5 (.ref (s.heap.size + 27))) [co D 2 (updV (updV (updV (fun k => defaultValue (tyK2 k)) 0 (.ref ((s.heap.size + 0 + 1) + 0))) 3 (.ref ((s.heap.size + 0 + 1) + 2))) 4 (.ref ((s.heap.size + 0 + 1) + 3))), co D 0 (updV (fun k => defaultValue (tyK0 k)) 1 (.ref ((s.heap.size + 0 + 1) + 0 + 1 + 0))), ca cJ 1024 (.long 0), ca cI 5 (.int 0), ca cI 5 (.int 0), co D 3 (updV (updV (updV (fun k => defaultValue (tyK3 k)) 0 (.ref ((s.heap.size + 5 + 1) + 0))) 2 (.ref ((s.heap.size + 5 + 1) + 1))) 4 (.ref ((s.heap.size + 5 + 1) + 2))), ca cI 300 (.int 0), ca cI 300 (.int 0), ca cI 300 (.int 0), co D 4 (updV (updV (updV (fun k => defaultValue (tyK4 k)) 0 (.ref ((s.heap.size + 9 + 1) + 0))) 1 (.ref ((s.heap.size + 9 + 1) + 1))) 2 (.ref ((s.heap.size + 9 + 1) + 2))), ca cI 315 (.int 0), ca cI 315 (.int 0), ca cI 315 (.int 0), co D 5 (updV (fun k => defaultValue (tyK5 k)) 0 (.ref ((s.heap.size + 13 + 1) + 0))), co D 0 (updV (fun k => defaultValue (tyK0 k)) 1 (.ref ((s.heap.size + 13 + 1) + 0 + 1 + 0))), ca cJ 512 (.long 0), co D 1 (updV (updV (updV (updV (updV (updV (updV (updV (updV (updV (fun k => defaultValue (tyK1 k)) 4 (.ref ((s.heap.size + 16 + 1) + 0))) 5 (.ref ((s.heap.size + 16 + 1) + 1))) 6 (.ref ((s.heap.size + 16 + 1) + 2))) 7 (.ref ((s.heap.size + 16 + 1) + 3))) 8 (.ref ((s.heap.size + 16 + 1) + 4))) 9 (.ref ((s.heap.size + 16 + 1) + 5))) 10 (.ref ((s.heap.size + 16 + 1) + 6))) 11 (.ref ((s.heap.size + 16 + 1) + 7))) 12 (.ref ((s.heap.size + 16 + 1) + 8))) 13 (.ref ((s.heap.size + 16 + 1) + 9))), ca cI 14 (.int 0), ca cI 16 (.int 0), ca cI 300 (.int 0), ca cI 300 (.int 0), ca cI 300 (.int 0), ca cI 315 (.int 0), ca cI 1001 (.int 0), ca cI 315 (.int 0), ca cI 315 (.int 0), ca cI 315 (.int 0), co D 1 (updV (updV (updV (updV (updV (updV (updV (updV (updV (updV (fun k => defaultValue (tyK1 k)) 4 (.ref ((s.heap.size + 27 + 1) + 0))) 5 (.ref ((s.heap.size + 27 + 1) + 1))) 6 (.ref ((s.heap.size + 27 + 1) + 2))) 7 (.ref ((s.heap.size + 27 + 1) + 3))) 8 (.ref ((s.heap.size + 27 + 1) + 4))) 9 (.ref ((s.heap.size + 27 + 1) + 5))) 10 (.ref ((s.heap.size + 27 + 1) + 6))) 11 (.ref ((s.heap.size + 27 + 1) + 7))) 12 (.ref ((s.heap.size + 27 + 1) + 8))) 13 (.ref ((s.heap.size + 27 + 1) + 9))), ca cI 14 (.int 0), ca cI 16 (.int 0), ca cI 300 (.int 0), ca cI 300 (.int 0), ca cI 300 (.int 0), ca cI 315 (.int 0), ca cI 1001 (.int 0), ca cI 315 (.int 0), ca cI 315 (.int 0), ca cI 315 (.int 0)] := hcs
  exact W.vret hx hb hr (fun t ht hW => ⟨⟨rfl, by rw [ht]; exact hcs.1, by rw [ht]; exact hcs.2.1, by rw [ht]; exact hcs.2.2.1⟩, hS.F ht⟩) hS.2.2 (by decide +kernel)
def yk7 : MethodName := ⟨"GateTextModel", "<init>", "()V"⟩
theorem wk7 : Cond.code yk7 prog_9_method_1_code 1 none ∈ sx_tb := sx_in_mem (i := 756) (by decide +kernel)
theorem wi7 : Cond.initialized "GateTextModel" ∈ sx_tb ∧ Cond.instanceMethod yk7 ∈ sx_tb := ⟨sx_in_mem (i := 70) (by decide +kernel), sx_in_mem (i := 755) (by decide +kernel)⟩
theorem tyK7_ok : ∀ k, k < 39 → parseFieldDescriptor (TK7 k).2.2.1 = some (tyK7 k) := by decide +kernel
theorem dk7 : decode prog_9_method_1_code 1 = .ok (.invokespecial 1, 3) := by decide +kernel
set_option maxHeartbeats 4000000 in
set_option maxRecDepth 100000 in
theorem k_7 (l : Launch) (D : va_G) (cI cJ cZ : ClassId) (h0 sz : Nat) : Met l yk7 (cws yk7 prog_9_method_1_code 1) ({ frames := 1, cells := 24, slots := 26161, locals := 12 }) (cPc D cI cJ cZ 7 h0 sz (fun k => defaultValue (tyK7 k)) []) (cQc D 7 h0 sz (updV (updV (updV (updV (updV (updV (updV (updV (updV (updV (updV (updV (updV (updV (updV (updV (updV (updV (updV (updV (updV (updV (updV (updV (fun k => defaultValue (tyK7 k)) 1 (.ref (sz + 0))) 3 (.ref (sz + 1))) 11 (.ref (sz + 2))) 12 (.ref (sz + 3))) 13 (.ref (sz + 4))) 14 (.ref (sz + 5))) 15 (.ref (sz + 6))) 16 (.ref (sz + 7))) 21 (.ref (sz + 8))) 22 (.ref (sz + 9))) 23 (.ref (sz + 10))) 24 (.ref (sz + 11))) 25 (.ref (sz + 12))) 26 (.ref (sz + 13))) 27 (.ref (sz + 14))) 28 (.ref (sz + 15))) 29 (.ref (sz + 16))) 31 (.ref (sz + 17))) 32 (.ref (sz + 18))) 33 (.ref (sz + 19))) 34 (.ref (sz + 20))) 35 (.ref (sz + 21))) 37 (.ref (sz + 22))) 38 (.ref (sz + 23))) [ca cI 8192 (.int 0), ca cI 8192 (.int 0), ca cI 14 (.int 0), ca cI 16 (.int 0), ca cI 300 (.int 0), ca cI 300 (.int 0), ca cI 300 (.int 0), fun o => o = some (arrV cI 1001 (fun k => .int (va_up (fun _ => (0 : Int32)) 0 3 k))), ca cI 14 (.int 0), ca cI 16 (.int 0), ca cI 300 (.int 0), ca cI 300 (.int 0), ca cI 300 (.int 0), ca cI 1001 (.int 0), ca cI 1001 (.int 0), ca cI 1001 (.int 0), ca cZ 1001 (.int 0), ca cI 5 (.int 0), ca cI 5 (.int 0), ca cI 1001 (.int 0), ca cI 300 (.int 0), ca cI 300 (.int 0), ca cZ 300 (.int 0), ca cI 1001 (.int 0)]) (24) (26161) (cA h0 sz) := by
  refine Met.ofW (cc := prog_9_method_1_code) (maxL := 1) (ret := none) (by decide) rfl ?_
  intro p e s m args below meth c s₁ B hml hv
  obtain ⟨rfl, hsz, hlt, hK, hco⟩ := hv
  have hx := B.exec
  have hb := B.bytes
  have hr := B.returns
  have hts' := atoms_spec (ws := cws yk7 prog_9_method_1_code 1) B.pre
  have hts : ∀ w ∈ sx_tb, w.before _ s = true := fun w hw => hts' w (List.mem_cons_of_mem _ hw)
  have hown : s.vm.findClass RK7 = some m.cls := findClass_of_methodNamed B.named
  have hin : meth.name = "<init>" := (name_of_methodNamed B.named B.method).1
  have hcI : s.vm.findClass ("[" ++ (newarray.typeOf .int).toString) = some cI := (hK.1.1.2 0 _ rfl).2
  have hcJ : s.vm.findClass ("[" ++ (newarray.typeOf .long).toString) = some cJ := (hK.1.1.2 1 _ rfl).2
  have hcZ : s.vm.findClass ("[" ++ (newarray.typeOf .boolean).toString) = some cZ := (hK.1.1.2 2 _ rfl).2
  subst hsz
  have hS : va_S (cA h0 s.heap.size) s.heap s.heap [] := va_S.rf
  have hcs : cS D 7 h0 s.heap.size s.heap (fun k => defaultValue (tyK7 k)) [] := ⟨rfl, hco, fun i P hi => (by cases hi), hlt⟩
  have hl := lv_entry ([.ref h0]) (n := 1) (Nat.le_of_ble_eq_true rfl)
  rw [lg_entry_eq]
  generalize (lg_sl ([.ref h0]) ++ List.replicate (1 - (lg_sl ([.ref h0])).length) Slot.unset).toArray = ls at hl ⊢
  have hl : lv_has ls 1 [(0, .ref h0)] := hl
  refine lv_aload_n hx hb (k := 0) (by decide +kernel) rfl (lv_at hl 0 rfl) ?_
  refine W.objInit hx hb hown (hts (.methodLink RK7 1 objectInit) (sx_in_mem (i := 757) (by decide +kernel))) (hts _ wo_i) (hts _ wo_c) rfl (by rw [hml]; exact hl.1) rfl dk7 (Nat.le_of_ble_eq_true rfl) (Nat.le_of_ble_eq_true rfl) ?_
  refine W.eq (g2 := F0 m 4 ls []) rfl ?_
  refine lv_aload_n hx hb (k := 0) (by decide +kernel) rfl (lv_at hl 0 rfl) ?_
  refine lv_sipush (n := 8192) (v := 8192) hx hb (by decide +kernel) (by decide) ?_
  refine ct_newa (atype := .int) (N := 8192) hx hb hts wa_int hcI (by decide) (by decide) (by decide) (Nat.le_of_ble_eq_true rfl) (Nat.le_of_ble_eq_true rfl) hcs hS (by decide +kernel) (fun H hcs hS => ?_)
  refine ct_putF (k := 1) (index := 7) hx hb hown hts hK.1 hin rfl (by decide) (sx_in_mem (i := 759) (by decide +kernel)) rfl rfl rfl rfl rfl hcs hS (by decide +kernel) (fun H locs hcs hS => ?_)
  have hcs : cS D 7 h0 s.heap.size H (updV (fun k => defaultValue (tyK7 k)) 1 (.ref (s.heap.size + 0))) [ca cI 8192 (.int 0)] := hcs
  refine lv_aload_n hx hb (k := 0) (by decide +kernel) rfl (lv_at hl 0 rfl) ?_
  refine lv_sipush (n := 8192) (v := 8192) hx hb (by decide +kernel) (by decide) ?_
  refine ct_newa (atype := .int) (N := 8192) hx hb hts wa_int hcI (by decide) (by decide) (by decide) (Nat.le_of_ble_eq_true rfl) (Nat.le_of_ble_eq_true rfl) hcs hS (by decide +kernel) (fun H hcs hS => ?_)
  refine ct_putF (k := 3) (index := 13) hx hb hown hts hK.1 hin rfl (by decide) (sx_in_mem (i := 761) (by decide +kernel)) rfl rfl rfl rfl rfl hcs hS (by decide +kernel) (fun H locs hcs hS => ?_)
  have hcs : cS D 7 h0 s.heap.size H (updV (updV (fun k => defaultValue (tyK7 k)) 1 (.ref (s.heap.size + 0))) 3 (.ref (s.heap.size + 1))) [ca cI 8192 (.int 0), ca cI 8192 (.int 0)] := hcs
  refine lv_aload_n hx hb (k := 0) (by decide +kernel) rfl (lv_at hl 0 rfl) ?_
  refine lv_bipush (n := 14) (v := 14) hx hb (by decide +kernel) (by decide) ?_
  refine ct_newa (atype := .int) (N := 14) hx hb hts wa_int hcI (by decide) (by decide) (by decide) (Nat.le_of_ble_eq_true rfl) (Nat.le_of_ble_eq_true rfl) hcs hS (by decide +kernel) (fun H hcs hS => ?_)
  refine ct_putF (k := 11) (index := 16) hx hb hown hts hK.1 hin rfl (by decide) (sx_in_mem (i := 769) (by decide +kernel)) rfl rfl rfl rfl rfl hcs hS (by decide +kernel) (fun H locs hcs hS => ?_)
  have hcs : cS D 7 h0 s.heap.size H (updV (updV (updV (fun k => defaultValue (tyK7 k)) 1 (.ref (s.heap.size + 0))) 3 (.ref (s.heap.size + 1))) 11 (.ref (s.heap.size + 2))) [ca cI 8192 (.int 0), ca cI 8192 (.int 0), ca cI 14 (.int 0)] := hcs
  refine lv_aload_n hx hb (k := 0) (by decide +kernel) rfl (lv_at hl 0 rfl) ?_
  refine lv_bipush (n := 16) (v := 16) hx hb (by decide +kernel) (by decide) ?_
  refine ct_newa (atype := .int) (N := 16) hx hb hts wa_int hcI (by decide) (by decide) (by decide) (Nat.le_of_ble_eq_true rfl) (Nat.le_of_ble_eq_true rfl) hcs hS (by decide +kernel) (fun H hcs hS => ?_)
  refine ct_putF (k := 12) (index := 19) hx hb hown hts hK.1 hin rfl (by decide) (sx_in_mem (i := 770) (by decide +kernel)) rfl rfl rfl rfl rfl hcs hS (by decide +kernel) (fun H locs hcs hS => ?_)
  have hcs : cS D 7 h0 s.heap.size H (updV (updV (updV (updV (fun k => defaultValue (tyK7 k)) 1 (.ref (s.heap.size + 0))) 3 (.ref (s.heap.size + 1))) 11 (.ref (s.heap.size + 2))) 12 (.ref (s.heap.size + 3))) [ca cI 8192 (.int 0), ca cI 8192 (.int 0), ca cI 14 (.int 0), ca cI 16 (.int 0)] := hcs
  refine lv_aload_n hx hb (k := 0) (by decide +kernel) rfl (lv_at hl 0 rfl) ?_
  refine lv_sipush (n := 300) (v := 300) hx hb (by decide +kernel) (by decide) ?_
  refine ct_newa (atype := .int) (N := 300) hx hb hts wa_int hcI (by decide) (by decide) (by decide) (Nat.le_of_ble_eq_true rfl) (Nat.le_of_ble_eq_true rfl) hcs hS (by decide +kernel) (fun H hcs hS => ?_)
  refine ct_putF (k := 13) (index := 22) hx hb hown hts hK.1 hin rfl (by decide) (sx_in_mem (i := 771) (by decide +kernel)) rfl rfl rfl rfl rfl hcs hS (by decide +kernel) (fun H locs hcs hS => ?_)
  have hcs : cS D 7 h0 s.heap.size H (updV (updV (updV (updV (updV (fun k => defaultValue (tyK7 k)) 1 (.ref (s.heap.size + 0))) 3 (.ref (s.heap.size + 1))) 11 (.ref (s.heap.size + 2))) 12 (.ref (s.heap.size + 3))) 13 (.ref (s.heap.size + 4))) [ca cI 8192 (.int 0), ca cI 8192 (.int 0), ca cI 14 (.int 0), ca cI 16 (.int 0), ca cI 300 (.int 0)] := hcs
  refine lv_aload_n hx hb (k := 0) (by decide +kernel) rfl (lv_at hl 0 rfl) ?_
  refine lv_sipush (n := 300) (v := 300) hx hb (by decide +kernel) (by decide) ?_
  refine ct_newa (atype := .int) (N := 300) hx hb hts wa_int hcI (by decide) (by decide) (by decide) (Nat.le_of_ble_eq_true rfl) (Nat.le_of_ble_eq_true rfl) hcs hS (by decide +kernel) (fun H hcs hS => ?_)
  refine ct_putF (k := 14) (index := 25) hx hb hown hts hK.1 hin rfl (by decide) (sx_in_mem (i := 772) (by decide +kernel)) rfl rfl rfl rfl rfl hcs hS (by decide +kernel) (fun H locs hcs hS => ?_)
  have hcs : cS D 7 h0 s.heap.size H (updV (updV (updV (updV (updV (updV (fun k => defaultValue (tyK7 k)) 1 (.ref (s.heap.size + 0))) 3 (.ref (s.heap.size + 1))) 11 (.ref (s.heap.size + 2))) 12 (.ref (s.heap.size + 3))) 13 (.ref (s.heap.size + 4))) 14 (.ref (s.heap.size + 5))) [ca cI 8192 (.int 0), ca cI 8192 (.int 0), ca cI 14 (.int 0), ca cI 16 (.int 0), ca cI 300 (.int 0), ca cI 300 (.int 0)] := hcs
  refine lv_aload_n hx hb (k := 0) (by decide +kernel) rfl (lv_at hl 0 rfl) ?_
  refine lv_sipush (n := 300) (v := 300) hx hb (by decide +kernel) (by decide) ?_
  refine ct_newa (atype := .int) (N := 300) hx hb hts wa_int hcI (by decide) (by decide) (by decide) (Nat.le_of_ble_eq_true rfl) (Nat.le_of_ble_eq_true rfl) hcs hS (by decide +kernel) (fun H hcs hS => ?_)
  refine ct_putF (k := 15) (index := 28) hx hb hown hts hK.1 hin rfl (by decide) (sx_in_mem (i := 773) (by decide +kernel)) rfl rfl rfl rfl rfl hcs hS (by decide +kernel) (fun H locs hcs hS => ?_)
  have hcs : cS D 7 h0 s.heap.size H (updV (updV (updV (updV (updV (updV (updV (fun k => defaultValue (tyK7 k)) 1 (.ref (s.heap.size + 0))) 3 (.ref (s.heap.size + 1))) 11 (.ref (s.heap.size + 2))) 12 (.ref (s.heap.size + 3))) 13 (.ref (s.heap.size + 4))) 14 (.ref (s.heap.size + 5))) 15 (.ref (s.heap.size + 6))) [ca cI 8192 (.int 0), ca cI 8192 (.int 0), ca cI 14 (.int 0), ca cI 16 (.int 0), ca cI 300 (.int 0), ca cI 300 (.int 0), ca cI 300 (.int 0)] := hcs
  refine lv_aload_n hx hb (k := 0) (by decide +kernel) rfl (lv_at hl 0 rfl) ?_
  refine lv_sipush (n := 1001) (v := 1001) hx hb (by decide +kernel) (by decide) ?_
  refine ct_newa (atype := .int) (N := 1001) hx hb hts wa_int hcI (by decide) (by decide) (by decide) (Nat.le_of_ble_eq_true rfl) (Nat.le_of_ble_eq_true rfl) hcs hS (by decide +kernel) (fun H hcs hS => ?_)
  refine ct_putF (k := 16) (index := 31) hx hb hown hts hK.1 hin rfl (by decide) (sx_in_mem (i := 774) (by decide +kernel)) rfl rfl rfl rfl rfl hcs hS (by decide +kernel) (fun H locs hcs hS => ?_)
  have hcs : cS D 7 h0 s.heap.size H (updV (updV (updV (updV (updV (updV (updV (updV (fun k => defaultValue (tyK7 k)) 1 (.ref (s.heap.size + 0))) 3 (.ref (s.heap.size + 1))) 11 (.ref (s.heap.size + 2))) 12 (.ref (s.heap.size + 3))) 13 (.ref (s.heap.size + 4))) 14 (.ref (s.heap.size + 5))) 15 (.ref (s.heap.size + 6))) 16 (.ref (s.heap.size + 7))) [ca cI 8192 (.int 0), ca cI 8192 (.int 0), ca cI 14 (.int 0), ca cI 16 (.int 0), ca cI 300 (.int 0), ca cI 300 (.int 0), ca cI 300 (.int 0), ca cI 1001 (.int 0)] := hcs
  refine lv_aload_n hx hb (k := 0) (by decide +kernel) rfl (lv_at hl 0 rfl) ?_
  refine lv_bipush (n := 14) (v := 14) hx hb (by decide +kernel) (by decide) ?_
  refine ct_newa (atype := .int) (N := 14) hx hb hts wa_int hcI (by decide) (by decide) (by decide) (Nat.le_of_ble_eq_true rfl) (Nat.le_of_ble_eq_true rfl) hcs hS (by decide +kernel) (fun H hcs hS => ?_)
  refine ct_putF (k := 21) (index := 34) hx hb hown hts hK.1 hin rfl (by decide) (sx_in_mem (i := 779) (by decide +kernel)) rfl rfl rfl rfl rfl hcs hS (by decide +kernel) (fun H locs hcs hS => ?_)
  have hcs : cS D 7 h0 s.heap.size H (updV (updV (updV (updV (updV (updV (updV (updV (updV (fun k => defaultValue (tyK7 k)) 1 (.ref (s.heap.size + 0))) 3 (.ref (s.heap.size + 1))) 11 (.ref (s.heap.size + 2))) 12 (.ref (s.heap.size + 3))) 13 (.ref (s.heap.size + 4))) 14 (.ref (s.heap.size + 5))) 15 (.ref (s.heap.size + 6))) 16 (.ref (s.heap.size + 7))) 21 (.ref (s.heap.size + 8))) [ca cI 8192 (.int 0), ca cI 8192 (.int 0), ca cI 14 (.int 0), ca cI 16 (.int 0), ca cI 300 (.int 0), ca cI 300 (.int 0), ca cI 300 (.int 0), ca cI 1001 (.int 0), ca cI 14 (.int 0)] := hcs
  refine lv_aload_n hx hb (k := 0) (by decide +kernel) rfl (lv_at hl 0 rfl) ?_
  refine lv_bipush (n := 16) (v := 16) hx hb (by decide +kernel) (by decide) ?_
  refine ct_newa (atype := .int) (N := 16) hx hb hts wa_int hcI (by decide) (by decide) (by decide) (Nat.le_of_ble_eq_true rfl) (Nat.le_of_ble_eq_true rfl) hcs hS (by decide +kernel) (fun H hcs hS => ?_)
  refine ct_putF (k := 22) (index := 37) hx hb hown hts hK.1 hin rfl (by decide) (sx_in_mem (i := 780) (by decide +kernel)) rfl rfl rfl rfl rfl hcs hS (by decide +kernel) (fun H locs hcs hS => ?_)
  have hcs : cS D 7 h0 s.heap.size H (updV (updV (updV (updV (updV (updV (updV (updV (updV (updV (fun k => defaultValue (tyK7 k)) 1 (.ref (s.heap.size + 0))) 3 (.ref (s.heap.size + 1))) 11 (.ref (s.heap.size + 2))) 12 (.ref (s.heap.size + 3))) 13 (.ref (s.heap.size + 4))) 14 (.ref (s.heap.size + 5))) 15 (.ref (s.heap.size + 6))) 16 (.ref (s.heap.size + 7))) 21 (.ref (s.heap.size + 8))) 22 (.ref (s.heap.size + 9))) [ca cI 8192 (.int 0), ca cI 8192 (.int 0), ca cI 14 (.int 0), ca cI 16 (.int 0), ca cI 300 (.int 0), ca cI 300 (.int 0), ca cI 300 (.int 0), ca cI 1001 (.int 0), ca cI 14 (.int 0), ca cI 16 (.int 0)] := hcs
  refine lv_aload_n hx hb (k := 0) (by decide +kernel) rfl (lv_at hl 0 rfl) ?_
  refine lv_sipush (n := 300) (v := 300) hx hb (by decide +kernel) (by decide) ?_
  refine ct_newa (atype := .int) (N := 300) hx hb hts wa_int hcI (by decide) (by decide) (by decide) (Nat.le_of_ble_eq_true rfl) (Nat.le_of_ble_eq_true rfl) hcs hS (by decide +kernel) (fun H hcs hS => ?_)
  refine ct_putF (k := 23) (index := 40) hx hb hown hts hK.1 hin rfl (by decide) (sx_in_mem (i := 781) (by decide +kernel)) rfl rfl rfl rfl rfl hcs hS (by decide +kernel) (fun H locs hcs hS => ?_)
  have hcs : cS D 7 h0 s.heap.size H (updV (updV (updV (updV (updV (updV (updV (updV (updV (updV (updV (fun k => defaultValue (tyK7 k)) 1 (.ref (s.heap.size + 0))) 3 (.ref (s.heap.size + 1))) 11 (.ref (s.heap.size + 2))) 12 (.ref (s.heap.size + 3))) 13 (.ref (s.heap.size + 4))) 14 (.ref (s.heap.size + 5))) 15 (.ref (s.heap.size + 6))) 16 (.ref (s.heap.size + 7))) 21 (.ref (s.heap.size + 8))) 22 (.ref (s.heap.size + 9))) 23 (.ref (s.heap.size + 10))) [ca cI 8192 (.int 0), ca cI 8192 (.int 0), ca cI 14 (.int 0), ca cI 16 (.int 0), ca cI 300 (.int 0), ca cI 300 (.int 0), ca cI 300 (.int 0), ca cI 1001 (.int 0), ca cI 14 (.int 0), ca cI 16 (.int 0), ca cI 300 (.int 0)] := hcs
  refine lv_aload_n hx hb (k := 0) (by decide +kernel) rfl (lv_at hl 0 rfl) ?_
  refine lv_sipush (n := 300) (v := 300) hx hb (by decide +kernel) (by decide) ?_
  refine ct_newa (atype := .int) (N := 300) hx hb hts wa_int hcI (by decide) (by decide) (by decide) (Nat.le_of_ble_eq_true rfl) (Nat.le_of_ble_eq_true rfl) hcs hS (by decide +kernel) (fun H hcs hS => ?_)
  refine ct_putF (k := 24) (index := 43) hx hb hown hts hK.1 hin rfl (by decide) (sx_in_mem (i := 782) (by decide +kernel)) rfl rfl rfl rfl rfl hcs hS (by decide +kernel) (fun H locs hcs hS => ?_)
  have hcs : cS D 7 h0 s.heap.size H (updV (updV (updV (updV (updV (updV (updV (updV (updV (updV (updV (updV (fun k => defaultValue (tyK7 k)) 1 (.ref (s.heap.size + 0))) 3 (.ref (s.heap.size + 1))) 11 (.ref (s.heap.size + 2))) 12 (.ref (s.heap.size + 3))) 13 (.ref (s.heap.size + 4))) 14 (.ref (s.heap.size + 5))) 15 (.ref (s.heap.size + 6))) 16 (.ref (s.heap.size + 7))) 21 (.ref (s.heap.size + 8))) 22 (.ref (s.heap.size + 9))) 23 (.ref (s.heap.size + 10))) 24 (.ref (s.heap.size + 11))) [ca cI 8192 (.int 0), ca cI 8192 (.int 0), ca cI 14 (.int 0), ca cI 16 (.int 0), ca cI 300 (.int 0), ca cI 300 (.int 0), ca cI 300 (.int 0), ca cI 1001 (.int 0), ca cI 14 (.int 0), ca cI 16 (.int 0), ca cI 300 (.int 0), ca cI 300 (.int 0)] := hcs
  refine lv_aload_n hx hb (k := 0) (by decide +kernel) rfl (lv_at hl 0 rfl) ?_
  refine lv_sipush (n := 300) (v := 300) hx hb (by decide +kernel) (by decide) ?_
  refine ct_newa (atype := .int) (N := 300) hx hb hts wa_int hcI (by decide) (by decide) (by decide) (Nat.le_of_ble_eq_true rfl) (Nat.le_of_ble_eq_true rfl) hcs hS (by decide +kernel) (fun H hcs hS => ?_)
  refine ct_putF (k := 25) (index := 46) hx hb hown hts hK.1 hin rfl (by decide) (sx_in_mem (i := 783) (by decide +kernel)) rfl rfl rfl rfl rfl hcs hS (by decide +kernel) (fun H locs hcs hS => ?_)
  have hcs : cS D 7 h0 s.heap.size H (updV (updV (updV (updV (updV (updV (updV (updV (updV (updV (updV (updV (updV (fun k => defaultValue (tyK7 k)) 1 (.ref (s.heap.size + 0))) 3 (.ref (s.heap.size + 1))) 11 (.ref (s.heap.size + 2))) 12 (.ref (s.heap.size + 3))) 13 (.ref (s.heap.size + 4))) 14 (.ref (s.heap.size + 5))) 15 (.ref (s.heap.size + 6))) 16 (.ref (s.heap.size + 7))) 21 (.ref (s.heap.size + 8))) 22 (.ref (s.heap.size + 9))) 23 (.ref (s.heap.size + 10))) 24 (.ref (s.heap.size + 11))) 25 (.ref (s.heap.size + 12))) [ca cI 8192 (.int 0), ca cI 8192 (.int 0), ca cI 14 (.int 0), ca cI 16 (.int 0), ca cI 300 (.int 0), ca cI 300 (.int 0), ca cI 300 (.int 0), ca cI 1001 (.int 0), ca cI 14 (.int 0), ca cI 16 (.int 0), ca cI 300 (.int 0), ca cI 300 (.int 0), ca cI 300 (.int 0)] := hcs
  refine lv_aload_n hx hb (k := 0) (by decide +kernel) rfl (lv_at hl 0 rfl) ?_
  refine lv_sipush (n := 1001) (v := 1001) hx hb (by decide +kernel) (by decide) ?_
  refine ct_newa (atype := .int) (N := 1001) hx hb hts wa_int hcI (by decide) (by decide) (by decide) (Nat.le_of_ble_eq_true rfl) (Nat.le_of_ble_eq_true rfl) hcs hS (by decide +kernel) (fun H hcs hS => ?_)
  refine ct_putF (k := 26) (index := 49) hx hb hown hts hK.1 hin rfl (by decide) (sx_in_mem (i := 784) (by decide +kernel)) rfl rfl rfl rfl rfl hcs hS (by decide +kernel) (fun H locs hcs hS => ?_)
  have hcs : cS D 7 h0 s.heap.size H (updV (updV (updV (updV (updV (updV (updV (updV (updV (updV (updV (updV (updV (updV (fun k => defaultValue (tyK7 k)) 1 (.ref (s.heap.size + 0))) 3 (.ref (s.heap.size + 1))) 11 (.ref (s.heap.size + 2))) 12 (.ref (s.heap.size + 3))) 13 (.ref (s.heap.size + 4))) 14 (.ref (s.heap.size + 5))) 15 (.ref (s.heap.size + 6))) 16 (.ref (s.heap.size + 7))) 21 (.ref (s.heap.size + 8))) 22 (.ref (s.heap.size + 9))) 23 (.ref (s.heap.size + 10))) 24 (.ref (s.heap.size + 11))) 25 (.ref (s.heap.size + 12))) 26 (.ref (s.heap.size + 13))) [ca cI 8192 (.int 0), ca cI 8192 (.int 0), ca cI 14 (.int 0), ca cI 16 (.int 0), ca cI 300 (.int 0), ca cI 300 (.int 0), ca cI 300 (.int 0), ca cI 1001 (.int 0), ca cI 14 (.int 0), ca cI 16 (.int 0), ca cI 300 (.int 0), ca cI 300 (.int 0), ca cI 300 (.int 0), ca cI 1001 (.int 0)] := hcs
  refine lv_aload_n hx hb (k := 0) (by decide +kernel) rfl (lv_at hl 0 rfl) ?_
  refine lv_sipush (n := 1001) (v := 1001) hx hb (by decide +kernel) (by decide) ?_
  refine ct_newa (atype := .int) (N := 1001) hx hb hts wa_int hcI (by decide) (by decide) (by decide) (Nat.le_of_ble_eq_true rfl) (Nat.le_of_ble_eq_true rfl) hcs hS (by decide +kernel) (fun H hcs hS => ?_)
  refine ct_putF (k := 27) (index := 52) hx hb hown hts hK.1 hin rfl (by decide) (sx_in_mem (i := 785) (by decide +kernel)) rfl rfl rfl rfl rfl hcs hS (by decide +kernel) (fun H locs hcs hS => ?_)
  have hcs : cS D 7 h0 s.heap.size H (updV (updV (updV (updV (updV (updV (updV (updV (updV (updV (updV (updV (updV (updV (updV (fun k => defaultValue (tyK7 k)) 1 (.ref (s.heap.size + 0))) 3 (.ref (s.heap.size + 1))) 11 (.ref (s.heap.size + 2))) 12 (.ref (s.heap.size + 3))) 13 (.ref (s.heap.size + 4))) 14 (.ref (s.heap.size + 5))) 15 (.ref (s.heap.size + 6))) 16 (.ref (s.heap.size + 7))) 21 (.ref (s.heap.size + 8))) 22 (.ref (s.heap.size + 9))) 23 (.ref (s.heap.size + 10))) 24 (.ref (s.heap.size + 11))) 25 (.ref (s.heap.size + 12))) 26 (.ref (s.heap.size + 13))) 27 (.ref (s.heap.size + 14))) [ca cI 8192 (.int 0), ca cI 8192 (.int 0), ca cI 14 (.int 0), ca cI 16 (.int 0), ca cI 300 (.int 0), ca cI 300 (.int 0), ca cI 300 (.int 0), ca cI 1001 (.int 0), ca cI 14 (.int 0), ca cI 16 (.int 0), ca cI 300 (.int 0), ca cI 300 (.int 0), ca cI 300 (.int 0), ca cI 1001 (.int 0), ca cI 1001 (.int 0)] := hcs
  refine lv_aload_n hx hb (k := 0) (by decide +kernel) rfl (lv_at hl 0 rfl) ?_
  refine lv_sipush (n := 1001) (v := 1001) hx hb (by decide +kernel) (by decide) ?_
  refine ct_newa (atype := .int) (N := 1001) hx hb hts wa_int hcI (by decide) (by decide) (by decide) (Nat.le_of_ble_eq_true rfl) (Nat.le_of_ble_eq_true rfl) hcs hS (by decide +kernel) (fun H hcs hS => ?_)
  refine ct_putF (k := 28) (index := 55) hx hb hown hts hK.1 hin rfl (by decide) (sx_in_mem (i := 786) (by decide +kernel)) rfl rfl rfl rfl rfl hcs hS (by decide +kernel) (fun H locs hcs hS => ?_)
  have hcs : cS D 7 h0 s.heap.size H (updV (updV (updV (updV (updV (updV (updV (updV (updV (updV (updV (updV (updV (updV (updV (updV (fun k => defaultValue (tyK7 k)) 1 (.ref (s.heap.size + 0))) 3 (.ref (s.heap.size + 1))) 11 (.ref (s.heap.size + 2))) 12 (.ref (s.heap.size + 3))) 13 (.ref (s.heap.size + 4))) 14 (.ref (s.heap.size + 5))) 15 (.ref (s.heap.size + 6))) 16 (.ref (s.heap.size + 7))) 21 (.ref (s.heap.size + 8))) 22 (.ref (s.heap.size + 9))) 23 (.ref (s.heap.size + 10))) 24 (.ref (s.heap.size + 11))) 25 (.ref (s.heap.size + 12))) 26 (.ref (s.heap.size + 13))) 27 (.ref (s.heap.size + 14))) 28 (.ref (s.heap.size + 15))) [ca cI 8192 (.int 0), ca cI 8192 (.int 0), ca cI 14 (.int 0), ca cI 16 (.int 0), ca cI 300 (.int 0), ca cI 300 (.int 0), ca cI 300 (.int 0), ca cI 1001 (.int 0), ca cI 14 (.int 0), ca cI 16 (.int 0), ca cI 300 (.int 0), ca cI 300 (.int 0), ca cI 300 (.int 0), ca cI 1001 (.int 0), ca cI 1001 (.int 0), ca cI 1001 (.int 0)] := hcs
  refine lv_aload_n hx hb (k := 0) (by decide +kernel) rfl (lv_at hl 0 rfl) ?_
  refine lv_sipush (n := 1001) (v := 1001) hx hb (by decide +kernel) (by decide) ?_
  refine ct_newa (atype := .boolean) (N := 1001) hx hb hts wa_boolean hcZ (by decide) (by decide) (by decide) (Nat.le_of_ble_eq_true rfl) (Nat.le_of_ble_eq_true rfl) hcs hS (by decide +kernel) (fun H hcs hS => ?_)
  refine ct_putF (k := 29) (index := 58) hx hb hown hts hK.1 hin rfl (by decide) (sx_in_mem (i := 787) (by decide +kernel)) rfl rfl rfl rfl rfl hcs hS (by decide +kernel) (fun H locs hcs hS => ?_)
  have hcs : cS D 7 h0 s.heap.size H (updV (updV (updV (updV (updV (updV (updV (updV (updV (updV (updV (updV (updV (updV (updV (updV (updV (fun k => defaultValue (tyK7 k)) 1 (.ref (s.heap.size + 0))) 3 (.ref (s.heap.size + 1))) 11 (.ref (s.heap.size + 2))) 12 (.ref (s.heap.size + 3))) 13 (.ref (s.heap.size + 4))) 14 (.ref (s.heap.size + 5))) 15 (.ref (s.heap.size + 6))) 16 (.ref (s.heap.size + 7))) 21 (.ref (s.heap.size + 8))) 22 (.ref (s.heap.size + 9))) 23 (.ref (s.heap.size + 10))) 24 (.ref (s.heap.size + 11))) 25 (.ref (s.heap.size + 12))) 26 (.ref (s.heap.size + 13))) 27 (.ref (s.heap.size + 14))) 28 (.ref (s.heap.size + 15))) 29 (.ref (s.heap.size + 16))) [ca cI 8192 (.int 0), ca cI 8192 (.int 0), ca cI 14 (.int 0), ca cI 16 (.int 0), ca cI 300 (.int 0), ca cI 300 (.int 0), ca cI 300 (.int 0), ca cI 1001 (.int 0), ca cI 14 (.int 0), ca cI 16 (.int 0), ca cI 300 (.int 0), ca cI 300 (.int 0), ca cI 300 (.int 0), ca cI 1001 (.int 0), ca cI 1001 (.int 0), ca cI 1001 (.int 0), ca cZ 1001 (.int 0)] := hcs
  refine lv_aload_n hx hb (k := 0) (by decide +kernel) rfl (lv_at hl 0 rfl) ?_
  refine lv_iconst (n := 5) (v := 5) hx hb (by decide +kernel) (by decide) ?_
  refine ct_newa (atype := .int) (N := 5) hx hb hts wa_int hcI (by decide) (by decide) (by decide) (Nat.le_of_ble_eq_true rfl) (Nat.le_of_ble_eq_true rfl) hcs hS (by decide +kernel) (fun H hcs hS => ?_)
  refine ct_putF (k := 31) (index := 62) hx hb hown hts hK.1 hin rfl (by decide) (sx_in_mem (i := 789) (by decide +kernel)) rfl rfl rfl rfl rfl hcs hS (by decide +kernel) (fun H locs hcs hS => ?_)
  have hcs : cS D 7 h0 s.heap.size H (updV (updV (updV (updV (updV (updV (updV (updV (updV (updV (updV (updV (updV (updV (updV (updV (updV (updV (fun k => defaultValue (tyK7 k)) 1 (.ref (s.heap.size + 0))) 3 (.ref (s.heap.size + 1))) 11 (.ref (s.heap.size + 2))) 12 (.ref (s.heap.size + 3))) 13 (.ref (s.heap.size + 4))) 14 (.ref (s.heap.size + 5))) 15 (.ref (s.heap.size + 6))) 16 (.ref (s.heap.size + 7))) 21 (.ref (s.heap.size + 8))) 22 (.ref (s.heap.size + 9))) 23 (.ref (s.heap.size + 10))) 24 (.ref (s.heap.size + 11))) 25 (.ref (s.heap.size + 12))) 26 (.ref (s.heap.size + 13))) 27 (.ref (s.heap.size + 14))) 28 (.ref (s.heap.size + 15))) 29 (.ref (s.heap.size + 16))) 31 (.ref (s.heap.size + 17))) [ca cI 8192 (.int 0), ca cI 8192 (.int 0), ca cI 14 (.int 0), ca cI 16 (.int 0), ca cI 300 (.int 0), ca cI 300 (.int 0), ca cI 300 (.int 0), ca cI 1001 (.int 0), ca cI 14 (.int 0), ca cI 16 (.int 0), ca cI 300 (.int 0), ca cI 300 (.int 0), ca cI 300 (.int 0), ca cI 1001 (.int 0), ca cI 1001 (.int 0), ca cI 1001 (.int 0), ca cZ 1001 (.int 0), ca cI 5 (.int 0)] := hcs
  refine lv_aload_n hx hb (k := 0) (by decide +kernel) rfl (lv_at hl 0 rfl) ?_
  refine lv_iconst (n := 5) (v := 5) hx hb (by decide +kernel) (by decide) ?_
  refine ct_newa (atype := .int) (N := 5) hx hb hts wa_int hcI (by decide) (by decide) (by decide) (Nat.le_of_ble_eq_true rfl) (Nat.le_of_ble_eq_true rfl) hcs hS (by decide +kernel) (fun H hcs hS => ?_)
  refine ct_putF (k := 32) (index := 65) hx hb hown hts hK.1 hin rfl (by decide) (sx_in_mem (i := 790) (by decide +kernel)) rfl rfl rfl rfl rfl hcs hS (by decide +kernel) (fun H locs hcs hS => ?_)
  have hcs : cS D 7 h0 s.heap.size H (updV (updV (updV (updV (updV (updV (updV (updV (updV (updV (updV (updV (updV (updV (updV (updV (updV (updV (updV (fun k => defaultValue (tyK7 k)) 1 (.ref (s.heap.size + 0))) 3 (.ref (s.heap.size + 1))) 11 (.ref (s.heap.size + 2))) 12 (.ref (s.heap.size + 3))) 13 (.ref (s.heap.size + 4))) 14 (.ref (s.heap.size + 5))) 15 (.ref (s.heap.size + 6))) 16 (.ref (s.heap.size + 7))) 21 (.ref (s.heap.size + 8))) 22 (.ref (s.heap.size + 9))) 23 (.ref (s.heap.size + 10))) 24 (.ref (s.heap.size + 11))) 25 (.ref (s.heap.size + 12))) 26 (.ref (s.heap.size + 13))) 27 (.ref (s.heap.size + 14))) 28 (.ref (s.heap.size + 15))) 29 (.ref (s.heap.size + 16))) 31 (.ref (s.heap.size + 17))) 32 (.ref (s.heap.size + 18))) [ca cI 8192 (.int 0), ca cI 8192 (.int 0), ca cI 14 (.int 0), ca cI 16 (.int 0), ca cI 300 (.int 0), ca cI 300 (.int 0), ca cI 300 (.int 0), ca cI 1001 (.int 0), ca cI 14 (.int 0), ca cI 16 (.int 0), ca cI 300 (.int 0), ca cI 300 (.int 0), ca cI 300 (.int 0), ca cI 1001 (.int 0), ca cI 1001 (.int 0), ca cI 1001 (.int 0), ca cZ 1001 (.int 0), ca cI 5 (.int 0), ca cI 5 (.int 0)] := hcs
  refine lv_aload_n hx hb (k := 0) (by decide +kernel) rfl (lv_at hl 0 rfl) ?_
  refine lv_sipush (n := 1001) (v := 1001) hx hb (by decide +kernel) (by decide) ?_
  refine ct_newa (atype := .int) (N := 1001) hx hb hts wa_int hcI (by decide) (by decide) (by decide) (Nat.le_of_ble_eq_true rfl) (Nat.le_of_ble_eq_true rfl) hcs hS (by decide +kernel) (fun H hcs hS => ?_)
  refine ct_putF (k := 33) (index := 68) hx hb hown hts hK.1 hin rfl (by decide) (sx_in_mem (i := 791) (by decide +kernel)) rfl rfl rfl rfl rfl hcs hS (by decide +kernel) (fun H locs hcs hS => ?_)
  have hcs : cS D 7 h0 s.heap.size H (updV (updV (updV (updV (updV (updV (updV (updV (updV (updV (updV (updV (updV (updV (updV (updV (updV (updV (updV (updV (fun k => defaultValue (tyK7 k)) 1 (.ref (s.heap.size + 0))) 3 (.ref (s.heap.size + 1))) 11 (.ref (s.heap.size + 2))) 12 (.ref (s.heap.size + 3))) 13 (.ref (s.heap.size + 4))) 14 (.ref (s.heap.size + 5))) 15 (.ref (s.heap.size + 6))) 16 (.ref (s.heap.size + 7))) 21 (.ref (s.heap.size + 8))) 22 (.ref (s.heap.size + 9))) 23 (.ref (s.heap.size + 10))) 24 (.ref (s.heap.size + 11))) 25 (.ref (s.heap.size + 12))) 26 (.ref (s.heap.size + 13))) 27 (.ref (s.heap.size + 14))) 28 (.ref (s.heap.size + 15))) 29 (.ref (s.heap.size + 16))) 31 (.ref (s.heap.size + 17))) 32 (.ref (s.heap.size + 18))) 33 (.ref (s.heap.size + 19))) [ca cI 8192 (.int 0), ca cI 8192 (.int 0), ca cI 14 (.int 0), ca cI 16 (.int 0), ca cI 300 (.int 0), ca cI 300 (.int 0), ca cI 300 (.int 0), ca cI 1001 (.int 0), ca cI 14 (.int 0), ca cI 16 (.int 0), ca cI 300 (.int 0), ca cI 300 (.int 0), ca cI 300 (.int 0), ca cI 1001 (.int 0), ca cI 1001 (.int 0), ca cI 1001 (.int 0), ca cZ 1001 (.int 0), ca cI 5 (.int 0), ca cI 5 (.int 0), ca cI 1001 (.int 0)] := hcs
  refine lv_aload_n hx hb (k := 0) (by decide +kernel) rfl (lv_at hl 0 rfl) ?_
  refine lv_sipush (n := 300) (v := 300) hx hb (by decide +kernel) (by decide) ?_
  refine ct_newa (atype := .int) (N := 300) hx hb hts wa_int hcI (by decide) (by decide) (by decide) (Nat.le_of_ble_eq_true rfl) (Nat.le_of_ble_eq_true rfl) hcs hS (by decide +kernel) (fun H hcs hS => ?_)
  refine ct_putF (k := 34) (index := 71) hx hb hown hts hK.1 hin rfl (by decide) (sx_in_mem (i := 792) (by decide +kernel)) rfl rfl rfl rfl rfl hcs hS (by decide +kernel) (fun H locs hcs hS => ?_)
  have hcs : cS D 7 h0 s.heap.size H (updV (updV (updV (updV (updV (updV (updV (updV (updV (updV (updV (updV (updV (updV (updV (updV (updV (updV (updV (updV (updV (fun k => defaultValue (tyK7 k)) 1 (.ref (s.heap.size + 0))) 3 (.ref (s.heap.size + 1))) 11 (.ref (s.heap.size + 2))) 12 (.ref (s.heap.size + 3))) 13 (.ref (s.heap.size + 4))) 14 (.ref (s.heap.size + 5))) 15 (.ref (s.heap.size + 6))) 16 (.ref (s.heap.size + 7))) 21 (.ref (s.heap.size + 8))) 22 (.ref (s.heap.size + 9))) 23 (.ref (s.heap.size + 10))) 24 (.ref (s.heap.size + 11))) 25 (.ref (s.heap.size + 12))) 26 (.ref (s.heap.size + 13))) 27 (.ref (s.heap.size + 14))) 28 (.ref (s.heap.size + 15))) 29 (.ref (s.heap.size + 16))) 31 (.ref (s.heap.size + 17))) 32 (.ref (s.heap.size + 18))) 33 (.ref (s.heap.size + 19))) 34 (.ref (s.heap.size + 20))) [ca cI 8192 (.int 0), ca cI 8192 (.int 0), ca cI 14 (.int 0), ca cI 16 (.int 0), ca cI 300 (.int 0), ca cI 300 (.int 0), ca cI 300 (.int 0), ca cI 1001 (.int 0), ca cI 14 (.int 0), ca cI 16 (.int 0), ca cI 300 (.int 0), ca cI 300 (.int 0), ca cI 300 (.int 0), ca cI 1001 (.int 0), ca cI 1001 (.int 0), ca cI 1001 (.int 0), ca cZ 1001 (.int 0), ca cI 5 (.int 0), ca cI 5 (.int 0), ca cI 1001 (.int 0), ca cI 300 (.int 0)] := hcs
  refine lv_aload_n hx hb (k := 0) (by decide +kernel) rfl (lv_at hl 0 rfl) ?_
  refine lv_sipush (n := 300) (v := 300) hx hb (by decide +kernel) (by decide) ?_
  refine ct_newa (atype := .int) (N := 300) hx hb hts wa_int hcI (by decide) (by decide) (by decide) (Nat.le_of_ble_eq_true rfl) (Nat.le_of_ble_eq_true rfl) hcs hS (by decide +kernel) (fun H hcs hS => ?_)
  refine ct_putF (k := 35) (index := 74) hx hb hown hts hK.1 hin rfl (by decide) (sx_in_mem (i := 793) (by decide +kernel)) rfl rfl rfl rfl rfl hcs hS (by decide +kernel) (fun H locs hcs hS => ?_)
  have hcs : cS D 7 h0 s.heap.size H (updV (updV (updV (updV (updV (updV (updV (updV (updV (updV (updV (updV (updV (updV (updV (updV (updV (updV (updV (updV (updV (updV (fun k => defaultValue (tyK7 k)) 1 (.ref (s.heap.size + 0))) 3 (.ref (s.heap.size + 1))) 11 (.ref (s.heap.size + 2))) 12 (.ref (s.heap.size + 3))) 13 (.ref (s.heap.size + 4))) 14 (.ref (s.heap.size + 5))) 15 (.ref (s.heap.size + 6))) 16 (.ref (s.heap.size + 7))) 21 (.ref (s.heap.size + 8))) 22 (.ref (s.heap.size + 9))) 23 (.ref (s.heap.size + 10))) 24 (.ref (s.heap.size + 11))) 25 (.ref (s.heap.size + 12))) 26 (.ref (s.heap.size + 13))) 27 (.ref (s.heap.size + 14))) 28 (.ref (s.heap.size + 15))) 29 (.ref (s.heap.size + 16))) 31 (.ref (s.heap.size + 17))) 32 (.ref (s.heap.size + 18))) 33 (.ref (s.heap.size + 19))) 34 (.ref (s.heap.size + 20))) 35 (.ref (s.heap.size + 21))) [ca cI 8192 (.int 0), ca cI 8192 (.int 0), ca cI 14 (.int 0), ca cI 16 (.int 0), ca cI 300 (.int 0), ca cI 300 (.int 0), ca cI 300 (.int 0), ca cI 1001 (.int 0), ca cI 14 (.int 0), ca cI 16 (.int 0), ca cI 300 (.int 0), ca cI 300 (.int 0), ca cI 300 (.int 0), ca cI 1001 (.int 0), ca cI 1001 (.int 0), ca cI 1001 (.int 0), ca cZ 1001 (.int 0), ca cI 5 (.int 0), ca cI 5 (.int 0), ca cI 1001 (.int 0), ca cI 300 (.int 0), ca cI 300 (.int 0)] := hcs
  refine lv_aload_n hx hb (k := 0) (by decide +kernel) rfl (lv_at hl 0 rfl) ?_
  refine lv_sipush (n := 300) (v := 300) hx hb (by decide +kernel) (by decide) ?_
  refine ct_newa (atype := .boolean) (N := 300) hx hb hts wa_boolean hcZ (by decide) (by decide) (by decide) (Nat.le_of_ble_eq_true rfl) (Nat.le_of_ble_eq_true rfl) hcs hS (by decide +kernel) (fun H hcs hS => ?_)
  refine ct_putF (k := 37) (index := 77) hx hb hown hts hK.1 hin rfl (by decide) (sx_in_mem (i := 795) (by decide +kernel)) rfl rfl rfl rfl rfl hcs hS (by decide +kernel) (fun H locs hcs hS => ?_)
  have hcs : cS D 7 h0 s.heap.size H (updV (updV (updV (updV (updV (updV (updV (updV (updV (updV (updV (updV (updV (updV (updV (updV (updV (updV (updV (updV (updV (updV (updV (fun k => defaultValue (tyK7 k)) 1 (.ref (s.heap.size + 0))) 3 (.ref (s.heap.size + 1))) 11 (.ref (s.heap.size + 2))) 12 (.ref (s.heap.size + 3))) 13 (.ref (s.heap.size + 4))) 14 (.ref (s.heap.size + 5))) 15 (.ref (s.heap.size + 6))) 16 (.ref (s.heap.size + 7))) 21 (.ref (s.heap.size + 8))) 22 (.ref (s.heap.size + 9))) 23 (.ref (s.heap.size + 10))) 24 (.ref (s.heap.size + 11))) 25 (.ref (s.heap.size + 12))) 26 (.ref (s.heap.size + 13))) 27 (.ref (s.heap.size + 14))) 28 (.ref (s.heap.size + 15))) 29 (.ref (s.heap.size + 16))) 31 (.ref (s.heap.size + 17))) 32 (.ref (s.heap.size + 18))) 33 (.ref (s.heap.size + 19))) 34 (.ref (s.heap.size + 20))) 35 (.ref (s.heap.size + 21))) 37 (.ref (s.heap.size + 22))) [ca cI 8192 (.int 0), ca cI 8192 (.int 0), ca cI 14 (.int 0), ca cI 16 (.int 0), ca cI 300 (.int 0), ca cI 300 (.int 0), ca cI 300 (.int 0), ca cI 1001 (.int 0), ca cI 14 (.int 0), ca cI 16 (.int 0), ca cI 300 (.int 0), ca cI 300 (.int 0), ca cI 300 (.int 0), ca cI 1001 (.int 0), ca cI 1001 (.int 0), ca cI 1001 (.int 0), ca cZ 1001 (.int 0), ca cI 5 (.int 0), ca cI 5 (.int 0), ca cI 1001 (.int 0), ca cI 300 (.int 0), ca cI 300 (.int 0), ca cZ 300 (.int 0)] := hcs
  refine lv_aload_n hx hb (k := 0) (by decide +kernel) rfl (lv_at hl 0 rfl) ?_
  refine lv_sipush (n := 1001) (v := 1001) hx hb (by decide +kernel) (by decide) ?_
  refine ct_newa (atype := .int) (N := 1001) hx hb hts wa_int hcI (by decide) (by decide) (by decide) (Nat.le_of_ble_eq_true rfl) (Nat.le_of_ble_eq_true rfl) hcs hS (by decide +kernel) (fun H hcs hS => ?_)
  refine ct_putF (k := 38) (index := 80) hx hb hown hts hK.1 hin rfl (by decide) (sx_in_mem (i := 796) (by decide +kernel)) rfl rfl rfl rfl rfl hcs hS (by decide +kernel) (fun H locs hcs hS => ?_)
  have hcs : cS D 7 h0 s.heap.size H (updV (updV (updV (updV (updV (updV (updV (updV (updV (updV (updV (updV (updV (updV (updV (updV (updV (updV (updV (updV (updV (updV (updV (updV (fun k => defaultValue (tyK7 k)) 1 (.ref (s.heap.size + 0))) 3 (.ref (s.heap.size + 1))) 11 (.ref (s.heap.size + 2))) 12 (.ref (s.heap.size + 3))) 13 (.ref (s.heap.size + 4))) 14 (.ref (s.heap.size + 5))) 15 (.ref (s.heap.size + 6))) 16 (.ref (s.heap.size + 7))) 21 (.ref (s.heap.size + 8))) 22 (.ref (s.heap.size + 9))) 23 (.ref (s.heap.size + 10))) 24 (.ref (s.heap.size + 11))) 25 (.ref (s.heap.size + 12))) 26 (.ref (s.heap.size + 13))) 27 (.ref (s.heap.size + 14))) 28 (.ref (s.heap.size + 15))) 29 (.ref (s.heap.size + 16))) 31 (.ref (s.heap.size + 17))) 32 (.ref (s.heap.size + 18))) 33 (.ref (s.heap.size + 19))) 34 (.ref (s.heap.size + 20))) 35 (.ref (s.heap.size + 21))) 37 (.ref (s.heap.size + 22))) 38 (.ref (s.heap.size + 23))) [ca cI 8192 (.int 0), ca cI 8192 (.int 0), ca cI 14 (.int 0), ca cI 16 (.int 0), ca cI 300 (.int 0), ca cI 300 (.int 0), ca cI 300 (.int 0), ca cI 1001 (.int 0), ca cI 14 (.int 0), ca cI 16 (.int 0), ca cI 300 (.int 0), ca cI 300 (.int 0), ca cI 300 (.int 0), ca cI 1001 (.int 0), ca cI 1001 (.int 0), ca cI 1001 (.int 0), ca cZ 1001 (.int 0), ca cI 5 (.int 0), ca cI 5 (.int 0), ca cI 1001 (.int 0), ca cI 300 (.int 0), ca cI 300 (.int 0), ca cZ 300 (.int 0), ca cI 1001 (.int 0)] := hcs
  refine lv_aload_n hx hb (k := 0) (by decide +kernel) rfl (lv_at hl 0 rfl) ?_
  refine ct_get (k := 16) (index := 31) hx hb hown hts hK.1 rfl (by decide) (sx_in_mem (i := 774) (by decide +kernel)) rfl hcs (by decide +kernel) ?_
  refine W.eq (g2 := F0 m 216 ls [.ref (s.heap.size + 7)]) rfl ?_
  refine lv_iconst (n := 0) (v := 0) hx hb (by decide +kernel) (by decide) ?_
  refine lv_iconst (n := 3) (v := 3) hx hb (by decide +kernel) (by decide) ?_
  have h7 := hcs.2.2.1 7 _ rfl
  refine W.iast hx hb h7 (sx_arrI hK.1 _ _) (fun q => by cases q) (sx_within (vp_in_nI (n := 0) (by decide) (by decide))) rfl rfl dm218 fun H1 e1 z oq => ?_
  have hcs2 := hcs.iast (i := 7) (P := fun o => o = some (arrV cI 1001 (fun k => .int (va_up (fun _ => (0 : Int32)) 0 3 k)))) z oq ?_
  · have hS2 := hS.put (k := 0) z oq (Or.inr (Nat.le_add_right _ _))
    exact W.vret hx hb hr (fun t ht hW => ⟨⟨rfl, by rw [ht]; exact hcs2.1, by rw [ht]; exact hcs2.2.1, by rw [ht]; exact hcs2.2.2.1⟩, hS2.F ht⟩) hS2.2.2 dm219
  · rw [e1, arrV_store]
    congr 2
    funext q
    show updV (fun _ => Value.int 0) 0 (.int 3) q = Value.int (va_up (fun _ => (0 : Int32)) 0 3 q)
    unfold updV va_up
    by_cases hq : q = 0
    · rw [if_pos hq, if_pos hq]
    · rw [if_neg hq, if_neg hq]
end CTS
