-- THE LAW: its cases
section LWC
def LC (p : Program) (l : Launch) (e : Env) (s : State) (m : MethodId) (below : List Frame) (meth : Method) (c : Code) (b L : Nat) (xs : Nat → Int32) (D : va_G) (cI cJ cZ : ClassId) (r : Nat → Nat) : Prop := lw_At p s m meth c b L xs ∧ L ≤ 2048 ∧ l.flags = pinnedFlags ++ [noTraceFlag] ∧ sx_K D cI cJ cZ s ∧ tU s
theorem lg_self (x : Int64) : lg_cmp x x = 0 := by unfold lg_cmp; simp
theorem wl_i : Cond.initialized "GateTextLaw" ∈ sx_tb := sx_in_mem (i := 61) (by decide +kernel)
theorem wl_c : Cond.constantLong "GateTextLaw" 50 4294967295 ∈ sx_tb := sx_in_mem (i := 1057) (by decide +kernel)
theorem dl_187 : decode code 187 = .ok (.laload, 1) := by decide +kernel
theorem dl_268 : decode code 268 = .ok (.laload, 1) := by decide +kernel
theorem dl_324 : decode code 324 = .ok (.laload, 1) := by decide +kernel
theorem dl_392 : decode code 392 = .ok (.laload, 1) := by decide +kernel
theorem dl_448 : decode code 448 = .ok (.laload, 1) := by decide +kernel
theorem dl_504 : decode code 504 = .ok (.laload, 1) := by decide +kernel
theorem dl_585 : decode code 585 = .ok (.laload, 1) := by decide +kernel
theorem dl_682 : decode code 682 = .ok (.laload, 1) := by decide +kernel
theorem dl_737 : decode code 737 = .ok (.laload, 1) := by decide +kernel
variable {p : Program} {l : Launch} {e : Env} {s : State} {m : MethodId} {below : List Frame} {meth : Method} {c : Code} {H : Heap} {locs : List Loc} {cells slots : Nat} {D : va_G} {cI cJ cZ : ClassId} {r : Nat → Nat} {h : sx_H} {b L : Nat} {xs : Nat → Int32}
set_option maxHeartbeats 4000000 in
set_option maxRecDepth 100000 in
theorem cs_feed (C0 : LC p l e s m below meth c b L xs D cI cJ cZ r) (hLS : lwS s D cI cJ cZ r h H locs) (inv : INV h) {i : Nat} (hi : i + 4 ≤ L) {ls : Array Slot} (hl : lv_has ls 8 [(0, .ref b), (1, .ref (r 0)), (2, .ref (r 40)), (3, .ref (r 39)), (4, .int (nI i))]) (hc1 : cells + 1 ≤ 601024) (hc2 : slots + 6 ≤ 7293034)
    (kk : ∀ (h' : sx_H) (H1 : Heap) (locs1 : List Loc) (ls1 : Array Slot), lwS s D cI cJ cZ r h' H1 locs1 → INV h' → lv_has ls1 8 [(0, .ref b), (1, .ref (r 0)), (2, .ref (r 40)), (3, .ref (r 39)), (4, .int (nI i))] → W p l e room_1 s m #[Value.ref b] below meth c H1 locs1 (cells + 1) (slots + 6) (lw_Z below #[Value.ref b] s) (F0 m 750 ls1 [])) :
    W p l e room_1 s m #[Value.ref b] below meth c H locs cells slots (lw_Z below #[Value.ref b] s) (F0 m 100 ls []) := by
  obtain ⟨hA0, hL, hfl, hK, ht⟩ := C0
  obtain ⟨hx, hb, hr, hml, hown, hts', hX, hbl, hlocks, hgv⟩ := hA0
  have hts : ∀ w ∈ sx_tb, w.before _ s = true := fun w hw => hts' w (List.mem_filter.mp hw).1
  have hbA : ¬ lA s b := Nat.not_le.mpr hbl
  have v1 : vp_in (nI i + 1) L := by rw [nI_1]; exact vp_in_nI (by omega) (by omega)
  have v2 : vp_in (nI i + 2) L := by rw [show nI i + 2 = nI (i + 2) from nI_add i 2]; exact vp_in_nI (by omega) (by omega)
  have v3 : vp_in (nI i + 3) L := by rw [show nI i + 3 = nI (i + 3) from nI_add i 3]; exact vp_in_nI (by omega) (by omega)
  refine lv_aload_n hx hb (k := 1) (by decide +kernel) rfl (lv_at hl 1 rfl) ?_
  refine lv_aload_n hx hb (k := 0) (by decide +kernel) rfl (lv_at hl 0 rfl) ?_
  refine lv_iload hx hb (i := 4) (by decide +kernel) (lv_at hl 4 rfl) ?_
  refine lv_iconst (n := 1) (v := 1) hx hb (by decide +kernel) (by decide) ?_
  refine lv_iadd hx hb (by decide +kernel) ?_
  refine va_sld hx hb hX hbl hbA hLS.2.2.1 v1 (by decide +kernel) ?_
  refine lv_aload_n hx hb (k := 0) (by decide +kernel) rfl (lv_at hl 0 rfl) ?_
  refine lv_iload hx hb (i := 4) (by decide +kernel) (lv_at hl 4 rfl) ?_
  refine lv_iconst (n := 2) (v := 2) hx hb (by decide +kernel) (by decide) ?_
  refine lv_iadd hx hb (by decide +kernel) ?_
  refine va_sld hx hb hX hbl hbA hLS.2.2.1 v2 (by decide +kernel) ?_
  refine lv_i2l (v := _) hx hb (by decide +kernel) rfl ?_
  refine lv_bipush (n := 32) (v := 32) hx hb (by decide +kernel) (by decide) ?_
  refine lv_lshl (v := _) hx hb (by decide +kernel) rfl ?_
  refine lv_aload_n hx hb (k := 0) (by decide +kernel) rfl (lv_at hl 0 rfl) ?_
  refine lv_iload hx hb (i := 4) (by decide +kernel) (lv_at hl 4 rfl) ?_
  refine lv_iconst (n := 3) (v := 3) hx hb (by decide +kernel) (by decide) ?_
  refine lv_iadd hx hb (by decide +kernel) ?_
  refine va_sld hx hb hX hbl hbA hLS.2.2.1 v3 (by decide +kernel) ?_
  refine lv_i2l (v := _) hx hb (by decide +kernel) rfl ?_
  refine lv_ldc2 (v := 4294967295) hx hb hown (hts _ wl_c) (by decide +kernel) ?_
  refine lv_land hx hb (by decide +kernel) ?_
  refine lv_lor hx hb (by decide +kernel) ?_
  refine lv_aload_n hx hb (k := 3) (by decide +kernel) rfl (lv_at hl 3 rfl) ?_
  refine lw_callS (index := 52) (as := [.ref 0, .int (xs (Int32.toNatClampNeg (nI i + 1))), .long (((xs (Int32.toNatClampNeg (nI i + 2))).toInt64 <<< (Int32.toInt64 32 &&& 63)) ||| ((xs (Int32.toNatClampNeg (nI i + 3))).toInt64 &&& 4294967295)), .ref 39]) (rest := []) hx hb hown hts ht hK (h_feed l hfl D cI cJ cZ r h H.size (Q := B1 108 [some (.ref 40), some (.int (xs (Int32.toNatClampNeg (nI i + 1)))), some (.long (((xs (Int32.toNatClampNeg (nI i + 2))).toInt64 <<< (Int32.toInt64 32 &&& 63)) ||| ((xs (Int32.toNatClampNeg (nI i + 3))).toInt64 &&& 4294967295))), none, none]) (a_feed inv (xs (Int32.toNatClampNeg (nI i + 1))) (((xs (Int32.toNatClampNeg (nI i + 2))).toInt64 <<< (Int32.toInt64 32 &&& 63)) ||| ((xs (Int32.toNatClampNeg (nI i + 3))).toInt64 &&& 4294967295)))) wh_feed (sx_in_mem (i := 550) (by decide +kernel)) (sx_in_mem (i := 551) (by decide +kernel)) wl_i ⟨by decide, by decide⟩ (show (parseMethodDescriptor yh_feed.desc).map (fun d => d.parameters.length) = some 4 by decide +kernel) (Nat.le_of_ble_eq_true rfl) (Nat.le_of_ble_eq_true rfl) hc1 hc2 hLS (by rw [hml]; exact hl.1) (Nat.le_of_ble_eq_true rfl) (by decide +kernel) (fun v h1 H1 locs1 hq hLS => ?_)
  obtain ⟨k, rfl, HX⟩ := hq
  refine W.eq (g2 := F0 m 133 ls [.int k]) rfl ?_
  refine lv_istore (lv' := [(5, .int k), (0, .ref b), (1, .ref (r 0)), (2, .ref (r 40)), (3, .ref (r 39)), (4, .int (nI i))]) hx hb (i := 5) (by decide +kernel) hl (by decide) rfl (fun ls hl => ?_)
  refine lv_aload_n hx hb (k := 2) (by decide +kernel) rfl (lv_at hl 3 rfl) ?_
  refine lv_aload_n hx hb (k := 0) (by decide +kernel) rfl (lv_at hl 1 rfl) ?_
  refine lv_iload hx hb (i := 4) (by decide +kernel) (lv_at hl 5 rfl) ?_
  refine lv_iconst (n := 1) (v := 1) hx hb (by decide +kernel) (by decide) ?_
  refine lv_iadd hx hb (by decide +kernel) ?_
  refine va_sld hx hb hX hbl hbA hLS.2.2.1 v1 (by decide +kernel) ?_
  refine lv_aload_n hx hb (k := 0) (by decide +kernel) rfl (lv_at hl 1 rfl) ?_
  refine lv_iload hx hb (i := 4) (by decide +kernel) (lv_at hl 5 rfl) ?_
  refine lv_iconst (n := 2) (v := 2) hx hb (by decide +kernel) (by decide) ?_
  refine lv_iadd hx hb (by decide +kernel) ?_
  refine va_sld hx hb hX hbl hbA hLS.2.2.1 v2 (by decide +kernel) ?_
  refine lv_i2l (v := _) hx hb (by decide +kernel) rfl ?_
  refine lv_bipush (n := 32) (v := 32) hx hb (by decide +kernel) (by decide) ?_
  refine lv_lshl (v := _) hx hb (by decide +kernel) rfl ?_
  refine lv_aload_n hx hb (k := 0) (by decide +kernel) rfl (lv_at hl 1 rfl) ?_
  refine lv_iload hx hb (i := 4) (by decide +kernel) (lv_at hl 5 rfl) ?_
  refine lv_iconst (n := 3) (v := 3) hx hb (by decide +kernel) (by decide) ?_
  refine lv_iadd hx hb (by decide +kernel) ?_
  refine va_sld hx hb hX hbl hbA hLS.2.2.1 v3 (by decide +kernel) ?_
  refine lv_i2l (v := _) hx hb (by decide +kernel) rfl ?_
  refine lv_ldc2 (v := 4294967295) hx hb hown (hts _ wl_c) (by decide +kernel) ?_
  refine lv_land hx hb (by decide +kernel) ?_
  refine lv_lor hx hb (by decide +kernel) ?_
  refine lw_callV (j := 108) (index := 57) (a0 := 40) (ci := 7) (av := [.int (xs (Int32.toNatClampNeg (nI i + 1))), .long (((xs (Int32.toNatClampNeg (nI i + 2))).toInt64 <<< (Int32.toInt64 32 &&& 63)) ||| ((xs (Int32.toNatClampNeg (nI i + 3))).toInt64 &&& 4294967295))]) (rest := []) hx hb hml hown hts (by decide) (by decide +kernel) (Nat.le_of_ble_eq_true rfl) (fun k h' q => q) (HX) (sx_in_mem (i := 976) (by decide +kernel)) (by decide +kernel) rfl (by decide +kernel) (sx_in_mem (i := 978) (by decide +kernel)) (show (parseMethodDescriptor (sx_y 108).desc).map (fun d => d.parameters.length) = some 2 by decide +kernel) (Nat.le_of_ble_eq_true rfl) (Nat.le_of_ble_eq_true rfl) hc1 hc2 hK rfl hLS hl.1 (Nat.le_of_ble_eq_true rfl) (by decide +kernel) (fun v h2 H2 locs2 hq hLS => ?_)
  obtain ⟨bb, rfl⟩ : ∃ z, v = some (.int z) := by
    cases v with
    | none => exact hq.elim
    | some w =>
      cases w with
      | int z => exact ⟨z, rfl⟩
      | _ => exact hq.elim
  refine W.eq (g2 := F0 m 167 ls [.int bb]) rfl ?_
  obtain ⟨q1, q2, inv2⟩ := hq
  refine lv_istore (lv' := [(6, .int bb), (5, .int k), (0, .ref b), (1, .ref (r 0)), (2, .ref (r 40)), (3, .ref (r 39)), (4, .int (nI i))]) hx hb (i := 6) (by decide +kernel) hl (by decide) rfl (fun ls hl => ?_)
  refine lv_aload_n hx hb (k := 2) (by decide +kernel) rfl (lv_at hl 4 rfl) ?_
  refine lw_callV (j := 77) (index := 58) (a0 := 40) (ci := 7) (av := []) (rest := []) hx hb hml hown hts (by decide) (by decide +kernel) (Nat.le_of_ble_eq_true rfl) (fun k h' q => q) (f_thrown (f := fun t h3 => t = h2.1 40 0 ∧ h3 = h2) rfl ⟨rfl, rfl⟩) (sx_in_mem (i := 877) (by decide +kernel)) (by decide +kernel) rfl (by decide +kernel) (sx_in_mem (i := 879) (by decide +kernel)) (show (parseMethodDescriptor (sx_y 77).desc).map (fun d => d.parameters.length) = some 0 by decide +kernel) (Nat.le_of_ble_eq_true rfl) (Nat.le_of_ble_eq_true rfl) hc1 hc2 hK rfl hLS hl.1 (Nat.le_of_ble_eq_true rfl) (by decide +kernel) (fun v h3 H3 locs3 hq hLS => ?_)
  obtain ⟨tt, rfl⟩ : ∃ z, v = some (.int z) := by
    cases v with
    | none => exact hq.elim
    | some w =>
      cases w with
      | int z => exact ⟨z, rfl⟩
      | _ => exact hq.elim
  refine W.eq (g2 := F0 m 173 ls [.int tt]) rfl ?_
  obtain ⟨q3, q4⟩ := hq
  rw [q4] at hLS
  refine lv_iload hx hb (i := 5) (by decide +kernel) (lv_at hl 1 rfl) ?_
  refine lv_icmp_eq (off := 5) (tgt := 180) hx hb (by decide +kernel) (by decide) (fun _ => ?_) (fun z => absurd (q3.trans q1) z)
  refine lv_iload hx hb (i := 5) (by decide +kernel) (lv_at hl 1 rfl) ?_
  refine lv_if_ne (off := 15) (tgt := 197) hx hb (by decide +kernel) (by decide) (fun _ => ?_) (fun z0 => ?_)
  · refine lv_goto (off := 553) (tgt := 750) hx hb (by decide +kernel) (by decide) ?_
    exact kk _ _ _ _ hLS inv2 (lv_sub hl [2, 3, 4, 5, 6] rfl)
  · have q5 := q2 z0
    refine lv_aload_n hx hb (k := 3) (by decide +kernel) rfl (lv_at hl 5 rfl) ?_
    refine lv_iconst (n := 0) (v := 0) hx hb (by decide +kernel) (by decide) ?_
    refine W.lald hx hb (sx_at_l (hLS.2.1 39) rfl) (sx_arrJ hK _ _) (fun q => by cases q) (sx_within (vp_in_nI (n := 0) (by decide) (by decide))) (sx_rd (vp_in_nI (n := 0) (by decide) (by decide))) rfl rfl dl_187 ?_
    refine W.eq (g2 := F0 m 188 ls [.long (h2.2.1 39 0)]) rfl ?_
    refine lv_iload hx hb (i := 6) (by decide +kernel) (lv_at hl 0 rfl) ?_
    refine lv_i2l (v := _) hx hb (by decide +kernel) rfl ?_
    refine W.lcmp hx hb (by decide +kernel) ?_
    rw [q5, lg_self]
    refine lv_if_eq (off := 5) (tgt := 197) hx hb (by decide +kernel) (by decide) (fun _ => ?_) (fun z => absurd rfl z)
    refine lv_goto (off := 553) (tgt := 750) hx hb (by decide +kernel) (by decide) ?_
    exact kk _ _ _ _ hLS inv2 (lv_sub hl [2, 3, 4, 5, 6] rfl)
set_option maxHeartbeats 4000000 in
set_option maxRecDepth 100000 in
theorem cs_value (C0 : LC p l e s m below meth c b L xs D cI cJ cZ r) (hLS : lwS s D cI cJ cZ r h H locs) (inv : INV h) {i : Nat} (hi : i + 4 ≤ L) {ls : Array Slot} (hl : lv_has ls 8 [(0, .ref b), (1, .ref (r 0)), (2, .ref (r 40)), (3, .ref (r 39)), (4, .int (nI i))]) (hc1 : cells + 1 ≤ 601024) (hc2 : slots + 6 ≤ 7293034)
    (kk : ∀ (h' : sx_H) (H1 : Heap) (locs1 : List Loc) (ls1 : Array Slot), lwS s D cI cJ cZ r h' H1 locs1 → INV h' → lv_has ls1 8 [(0, .ref b), (1, .ref (r 0)), (2, .ref (r 40)), (3, .ref (r 39)), (4, .int (nI i))] → W p l e room_1 s m #[Value.ref b] below meth c H1 locs1 (cells + 1) (slots + 6) (lw_Z below #[Value.ref b] s) (F0 m 750 ls1 [])) :
    W p l e room_1 s m #[Value.ref b] below meth c H locs cells slots (lw_Z below #[Value.ref b] s) (F0 m 213 ls []) := by
  obtain ⟨hA0, hL, hfl, hK, ht⟩ := C0
  obtain ⟨hx, hb, hr, hml, hown, hts', hX, hbl, hlocks, hgv⟩ := hA0
  have hts : ∀ w ∈ sx_tb, w.before _ s = true := fun w hw => hts' w (List.mem_filter.mp hw).1
  have hbA : ¬ lA s b := Nat.not_le.mpr hbl
  have v1 : vp_in (nI i + 1) L := by rw [nI_1]; exact vp_in_nI (by omega) (by omega)
  have v2 : vp_in (nI i + 2) L := by rw [show nI i + 2 = nI (i + 2) from nI_add i 2]; exact vp_in_nI (by omega) (by omega)
  have v3 : vp_in (nI i + 3) L := by rw [show nI i + 3 = nI (i + 3) from nI_add i 3]; exact vp_in_nI (by omega) (by omega)
  refine lv_aload_n hx hb (k := 1) (by decide +kernel) rfl (lv_at hl 1 rfl) ?_
  refine lv_aload_n hx hb (k := 0) (by decide +kernel) rfl (lv_at hl 0 rfl) ?_
  refine lv_iload hx hb (i := 4) (by decide +kernel) (lv_at hl 4 rfl) ?_
  refine lv_iconst (n := 1) (v := 1) hx hb (by decide +kernel) (by decide) ?_
  refine lv_iadd hx hb (by decide +kernel) ?_
  refine va_sld hx hb hX hbl hbA hLS.2.2.1 v1 (by decide +kernel) ?_
  refine lv_aload_n hx hb (k := 0) (by decide +kernel) rfl (lv_at hl 0 rfl) ?_
  refine lv_iload hx hb (i := 4) (by decide +kernel) (lv_at hl 4 rfl) ?_
  refine lv_iconst (n := 2) (v := 2) hx hb (by decide +kernel) (by decide) ?_
  refine lv_iadd hx hb (by decide +kernel) ?_
  refine va_sld hx hb hX hbl hbA hLS.2.2.1 v2 (by decide +kernel) ?_
  refine lv_aload_n hx hb (k := 3) (by decide +kernel) rfl (lv_at hl 3 rfl) ?_
  refine lw_callS (index := 66) (as := [.ref 0, .int (xs (Int32.toNatClampNeg (nI i + 1))), .int (xs (Int32.toNatClampNeg (nI i + 2))), .ref 39]) (rest := []) hx hb hown hts ht hK (h_value l hfl D cI cJ cZ r h H.size (Q := B1 109 [some (.ref 40), some (.int (xs (Int32.toNatClampNeg (nI i + 1)))), some (.int (xs (Int32.toNatClampNeg (nI i + 2))))]) (a_value inv (xs (Int32.toNatClampNeg (nI i + 1))) (xs (Int32.toNatClampNeg (nI i + 2))))) wh_value (sx_in_mem (i := 644) (by decide +kernel)) (sx_in_mem (i := 645) (by decide +kernel)) wl_i ⟨by decide, by decide⟩ (show (parseMethodDescriptor yh_value.desc).map (fun d => d.parameters.length) = some 4 by decide +kernel) (Nat.le_of_ble_eq_true rfl) (Nat.le_of_ble_eq_true rfl) hc1 hc2 hLS (by rw [hml]; exact hl.1) (Nat.le_of_ble_eq_true rfl) (by decide +kernel) (fun v h1 H1 locs1 hq hLS => ?_)
  obtain ⟨k, rfl, HX⟩ := hq
  refine W.eq (g2 := F0 m 230 ls [.int k]) rfl ?_
  refine lv_istore (lv' := [(5, .int k), (0, .ref b), (1, .ref (r 0)), (2, .ref (r 40)), (3, .ref (r 39)), (4, .int (nI i))]) hx hb (i := 5) (by decide +kernel) hl (by decide) rfl (fun ls hl => ?_)
  refine lv_aload_n hx hb (k := 2) (by decide +kernel) rfl (lv_at hl 3 rfl) ?_
  refine lv_aload_n hx hb (k := 0) (by decide +kernel) rfl (lv_at hl 1 rfl) ?_
  refine lv_iload hx hb (i := 4) (by decide +kernel) (lv_at hl 5 rfl) ?_
  refine lv_iconst (n := 1) (v := 1) hx hb (by decide +kernel) (by decide) ?_
  refine lv_iadd hx hb (by decide +kernel) ?_
  refine va_sld hx hb hX hbl hbA hLS.2.2.1 v1 (by decide +kernel) ?_
  refine lv_aload_n hx hb (k := 0) (by decide +kernel) rfl (lv_at hl 1 rfl) ?_
  refine lv_iload hx hb (i := 4) (by decide +kernel) (lv_at hl 5 rfl) ?_
  refine lv_iconst (n := 2) (v := 2) hx hb (by decide +kernel) (by decide) ?_
  refine lv_iadd hx hb (by decide +kernel) ?_
  refine va_sld hx hb hX hbl hbA hLS.2.2.1 v2 (by decide +kernel) ?_
  refine lw_callV (j := 109) (index := 69) (a0 := 40) (ci := 7) (av := [.int (xs (Int32.toNatClampNeg (nI i + 1))), .int (xs (Int32.toNatClampNeg (nI i + 2)))]) (rest := []) hx hb hml hown hts (by decide) (by decide +kernel) (Nat.le_of_ble_eq_true rfl) (fun k h' q => q) (HX) (sx_in_mem (i := 981) (by decide +kernel)) (by decide +kernel) rfl (by decide +kernel) (sx_in_mem (i := 983) (by decide +kernel)) (show (parseMethodDescriptor (sx_y 109).desc).map (fun d => d.parameters.length) = some 2 by decide +kernel) (Nat.le_of_ble_eq_true rfl) (Nat.le_of_ble_eq_true rfl) hc1 hc2 hK rfl hLS hl.1 (Nat.le_of_ble_eq_true rfl) (by decide +kernel) (fun v h2 H2 locs2 hq hLS => ?_)
  obtain ⟨bb, rfl⟩ : ∃ z, v = some (.int z) := by
    cases v with
    | none => exact hq.elim
    | some w =>
      cases w with
      | int z => exact ⟨z, rfl⟩
      | _ => exact hq.elim
  refine W.eq (g2 := F0 m 248 ls [.int bb]) rfl ?_
  obtain ⟨q1, q2, inv2⟩ := hq
  refine lv_istore (lv' := [(6, .int bb), (5, .int k), (0, .ref b), (1, .ref (r 0)), (2, .ref (r 40)), (3, .ref (r 39)), (4, .int (nI i))]) hx hb (i := 6) (by decide +kernel) hl (by decide) rfl (fun ls hl => ?_)
  refine lv_aload_n hx hb (k := 2) (by decide +kernel) rfl (lv_at hl 4 rfl) ?_
  refine lw_callV (j := 77) (index := 58) (a0 := 40) (ci := 7) (av := []) (rest := []) hx hb hml hown hts (by decide) (by decide +kernel) (Nat.le_of_ble_eq_true rfl) (fun k h' q => q) (f_thrown (f := fun t h3 => t = h2.1 40 0 ∧ h3 = h2) rfl ⟨rfl, rfl⟩) (sx_in_mem (i := 877) (by decide +kernel)) (by decide +kernel) rfl (by decide +kernel) (sx_in_mem (i := 879) (by decide +kernel)) (show (parseMethodDescriptor (sx_y 77).desc).map (fun d => d.parameters.length) = some 0 by decide +kernel) (Nat.le_of_ble_eq_true rfl) (Nat.le_of_ble_eq_true rfl) hc1 hc2 hK rfl hLS hl.1 (Nat.le_of_ble_eq_true rfl) (by decide +kernel) (fun v h3 H3 locs3 hq hLS => ?_)
  obtain ⟨tt, rfl⟩ : ∃ z, v = some (.int z) := by
    cases v with
    | none => exact hq.elim
    | some w =>
      cases w with
      | int z => exact ⟨z, rfl⟩
      | _ => exact hq.elim
  refine W.eq (g2 := F0 m 254 ls [.int tt]) rfl ?_
  obtain ⟨q3, q4⟩ := hq
  rw [q4] at hLS
  refine lv_iload hx hb (i := 5) (by decide +kernel) (lv_at hl 1 rfl) ?_
  refine lv_icmp_eq (off := 5) (tgt := 261) hx hb (by decide +kernel) (by decide) (fun _ => ?_) (fun z => absurd (q3.trans q1) z)
  refine lv_iload hx hb (i := 5) (by decide +kernel) (lv_at hl 1 rfl) ?_
  refine lv_if_ne (off := 15) (tgt := 278) hx hb (by decide +kernel) (by decide) (fun _ => ?_) (fun z0 => ?_)
  · refine lv_goto (off := 472) (tgt := 750) hx hb (by decide +kernel) (by decide) ?_
    exact kk _ _ _ _ hLS inv2 (lv_sub hl [2, 3, 4, 5, 6] rfl)
  · have q5 := q2 z0
    refine lv_aload_n hx hb (k := 3) (by decide +kernel) rfl (lv_at hl 5 rfl) ?_
    refine lv_iconst (n := 0) (v := 0) hx hb (by decide +kernel) (by decide) ?_
    refine W.lald hx hb (sx_at_l (hLS.2.1 39) rfl) (sx_arrJ hK _ _) (fun q => by cases q) (sx_within (vp_in_nI (n := 0) (by decide) (by decide))) (sx_rd (vp_in_nI (n := 0) (by decide) (by decide))) rfl rfl dl_268 ?_
    refine W.eq (g2 := F0 m 269 ls [.long (h2.2.1 39 0)]) rfl ?_
    refine lv_iload hx hb (i := 6) (by decide +kernel) (lv_at hl 0 rfl) ?_
    refine lv_i2l (v := _) hx hb (by decide +kernel) rfl ?_
    refine W.lcmp hx hb (by decide +kernel) ?_
    rw [q5, lg_self]
    refine lv_if_eq (off := 5) (tgt := 278) hx hb (by decide +kernel) (by decide) (fun _ => ?_) (fun z => absurd rfl z)
    refine lv_goto (off := 472) (tgt := 750) hx hb (by decide +kernel) (by decide) ?_
    exact kk _ _ _ _ hLS inv2 (lv_sub hl [2, 3, 4, 5, 6] rfl)
set_option maxHeartbeats 4000000 in
set_option maxRecDepth 100000 in
theorem cs_outputs (C0 : LC p l e s m below meth c b L xs D cI cJ cZ r) (hLS : lwS s D cI cJ cZ r h H locs) (inv : INV h) {i : Nat} (hi : i + 4 ≤ L) {ls : Array Slot} (hl : lv_has ls 8 [(0, .ref b), (1, .ref (r 0)), (2, .ref (r 40)), (3, .ref (r 39)), (4, .int (nI i))]) (hc1 : cells + 1 ≤ 601024) (hc2 : slots + 6 ≤ 7293034)
    (kk : ∀ (h' : sx_H) (H1 : Heap) (locs1 : List Loc) (ls1 : Array Slot), lwS s D cI cJ cZ r h' H1 locs1 → INV h' → lv_has ls1 8 [(0, .ref b), (1, .ref (r 0)), (2, .ref (r 40)), (3, .ref (r 39)), (4, .int (nI i))] → W p l e room_1 s m #[Value.ref b] below meth c H1 locs1 (cells + 1) (slots + 6) (lw_Z below #[Value.ref b] s) (F0 m 750 ls1 [])) :
    W p l e room_1 s m #[Value.ref b] below meth c H locs cells slots (lw_Z below #[Value.ref b] s) (F0 m 281 ls []) := by
  obtain ⟨hA0, hL, hfl, hK, ht⟩ := C0
  obtain ⟨hx, hb, hr, hml, hown, hts', hX, hbl, hlocks, hgv⟩ := hA0
  have hts : ∀ w ∈ sx_tb, w.before _ s = true := fun w hw => hts' w (List.mem_filter.mp hw).1
  have hbA : ¬ lA s b := Nat.not_le.mpr hbl
  have v1 : vp_in (nI i + 1) L := by rw [nI_1]; exact vp_in_nI (by omega) (by omega)
  have v2 : vp_in (nI i + 2) L := by rw [show nI i + 2 = nI (i + 2) from nI_add i 2]; exact vp_in_nI (by omega) (by omega)
  have v3 : vp_in (nI i + 3) L := by rw [show nI i + 3 = nI (i + 3) from nI_add i 3]; exact vp_in_nI (by omega) (by omega)
  refine lv_aload_n hx hb (k := 1) (by decide +kernel) rfl (lv_at hl 1 rfl) ?_
  refine lv_aload_n hx hb (k := 0) (by decide +kernel) rfl (lv_at hl 0 rfl) ?_
  refine lv_iload hx hb (i := 4) (by decide +kernel) (lv_at hl 4 rfl) ?_
  refine lv_iconst (n := 1) (v := 1) hx hb (by decide +kernel) (by decide) ?_
  refine lv_iadd hx hb (by decide +kernel) ?_
  refine va_sld hx hb hX hbl hbA hLS.2.2.1 v1 (by decide +kernel) ?_
  refine lv_aload_n hx hb (k := 3) (by decide +kernel) rfl (lv_at hl 3 rfl) ?_
  refine lw_callS (index := 70) (as := [.ref 0, .int (xs (Int32.toNatClampNeg (nI i + 1))), .ref 39]) (rest := []) hx hb hown hts ht hK (h_outputs l hfl D cI cJ cZ r h H.size (Q := B1 110 [some (.ref 40), some (.int (xs (Int32.toNatClampNeg (nI i + 1)))), none, none]) (a_outputs inv (xs (Int32.toNatClampNeg (nI i + 1))))) wh_outputs (sx_in_mem (i := 667) (by decide +kernel)) (sx_in_mem (i := 668) (by decide +kernel)) wl_i ⟨by decide, by decide⟩ (show (parseMethodDescriptor yh_outputs.desc).map (fun d => d.parameters.length) = some 3 by decide +kernel) (Nat.le_of_ble_eq_true rfl) (Nat.le_of_ble_eq_true rfl) hc1 hc2 hLS (by rw [hml]; exact hl.1) (Nat.le_of_ble_eq_true rfl) (by decide +kernel) (fun v h1 H1 locs1 hq hLS => ?_)
  obtain ⟨k, rfl, HX⟩ := hq
  refine W.eq (g2 := F0 m 292 ls [.int k]) rfl ?_
  refine lv_istore (lv' := [(5, .int k), (0, .ref b), (1, .ref (r 0)), (2, .ref (r 40)), (3, .ref (r 39)), (4, .int (nI i))]) hx hb (i := 5) (by decide +kernel) hl (by decide) rfl (fun ls hl => ?_)
  refine lv_aload_n hx hb (k := 2) (by decide +kernel) rfl (lv_at hl 3 rfl) ?_
  refine lv_aload_n hx hb (k := 0) (by decide +kernel) rfl (lv_at hl 1 rfl) ?_
  refine lv_iload hx hb (i := 4) (by decide +kernel) (lv_at hl 5 rfl) ?_
  refine lv_iconst (n := 1) (v := 1) hx hb (by decide +kernel) (by decide) ?_
  refine lv_iadd hx hb (by decide +kernel) ?_
  refine va_sld hx hb hX hbl hbA hLS.2.2.1 v1 (by decide +kernel) ?_
  refine lw_callV (j := 110) (index := 73) (a0 := 40) (ci := 7) (av := [.int (xs (Int32.toNatClampNeg (nI i + 1)))]) (rest := []) hx hb hml hown hts (by decide) (by decide +kernel) (Nat.le_of_ble_eq_true rfl) (fun k h' q => q) (HX) (sx_in_mem (i := 997) (by decide +kernel)) (by decide +kernel) rfl (by decide +kernel) (sx_in_mem (i := 999) (by decide +kernel)) (show (parseMethodDescriptor (sx_y 110).desc).map (fun d => d.parameters.length) = some 1 by decide +kernel) (Nat.le_of_ble_eq_true rfl) (Nat.le_of_ble_eq_true rfl) hc1 hc2 hK rfl hLS hl.1 (Nat.le_of_ble_eq_true rfl) (by decide +kernel) (fun v h2 H2 locs2 hq hLS => ?_)
  obtain ⟨bb, rfl⟩ : ∃ z, v = some (.int z) := by
    cases v with
    | none => exact hq.elim
    | some w =>
      cases w with
      | int z => exact ⟨z, rfl⟩
      | _ => exact hq.elim
  refine W.eq (g2 := F0 m 304 ls [.int bb]) rfl ?_
  obtain ⟨q1, q2, inv2⟩ := hq
  refine lv_istore (lv' := [(6, .int bb), (5, .int k), (0, .ref b), (1, .ref (r 0)), (2, .ref (r 40)), (3, .ref (r 39)), (4, .int (nI i))]) hx hb (i := 6) (by decide +kernel) hl (by decide) rfl (fun ls hl => ?_)
  refine lv_aload_n hx hb (k := 2) (by decide +kernel) rfl (lv_at hl 4 rfl) ?_
  refine lw_callV (j := 77) (index := 58) (a0 := 40) (ci := 7) (av := []) (rest := []) hx hb hml hown hts (by decide) (by decide +kernel) (Nat.le_of_ble_eq_true rfl) (fun k h' q => q) (f_thrown (f := fun t h3 => t = h2.1 40 0 ∧ h3 = h2) rfl ⟨rfl, rfl⟩) (sx_in_mem (i := 877) (by decide +kernel)) (by decide +kernel) rfl (by decide +kernel) (sx_in_mem (i := 879) (by decide +kernel)) (show (parseMethodDescriptor (sx_y 77).desc).map (fun d => d.parameters.length) = some 0 by decide +kernel) (Nat.le_of_ble_eq_true rfl) (Nat.le_of_ble_eq_true rfl) hc1 hc2 hK rfl hLS hl.1 (Nat.le_of_ble_eq_true rfl) (by decide +kernel) (fun v h3 H3 locs3 hq hLS => ?_)
  obtain ⟨tt, rfl⟩ : ∃ z, v = some (.int z) := by
    cases v with
    | none => exact hq.elim
    | some w =>
      cases w with
      | int z => exact ⟨z, rfl⟩
      | _ => exact hq.elim
  refine W.eq (g2 := F0 m 310 ls [.int tt]) rfl ?_
  obtain ⟨q3, q4⟩ := hq
  rw [q4] at hLS
  refine lv_iload hx hb (i := 5) (by decide +kernel) (lv_at hl 1 rfl) ?_
  refine lv_icmp_eq (off := 5) (tgt := 317) hx hb (by decide +kernel) (by decide) (fun _ => ?_) (fun z => absurd (q3.trans q1) z)
  refine lv_iload hx hb (i := 5) (by decide +kernel) (lv_at hl 1 rfl) ?_
  refine lv_if_ne (off := 15) (tgt := 334) hx hb (by decide +kernel) (by decide) (fun _ => ?_) (fun z0 => ?_)
  · refine lv_goto (off := 416) (tgt := 750) hx hb (by decide +kernel) (by decide) ?_
    exact kk _ _ _ _ hLS inv2 (lv_sub hl [2, 3, 4, 5, 6] rfl)
  · have q5 := q2 z0
    refine lv_aload_n hx hb (k := 3) (by decide +kernel) rfl (lv_at hl 5 rfl) ?_
    refine lv_iconst (n := 0) (v := 0) hx hb (by decide +kernel) (by decide) ?_
    refine W.lald hx hb (sx_at_l (hLS.2.1 39) rfl) (sx_arrJ hK _ _) (fun q => by cases q) (sx_within (vp_in_nI (n := 0) (by decide) (by decide))) (sx_rd (vp_in_nI (n := 0) (by decide) (by decide))) rfl rfl dl_324 ?_
    refine W.eq (g2 := F0 m 325 ls [.long (h2.2.1 39 0)]) rfl ?_
    refine lv_iload hx hb (i := 6) (by decide +kernel) (lv_at hl 0 rfl) ?_
    refine lv_i2l (v := _) hx hb (by decide +kernel) rfl ?_
    refine W.lcmp hx hb (by decide +kernel) ?_
    rw [q5, lg_self]
    refine lv_if_eq (off := 5) (tgt := 334) hx hb (by decide +kernel) (by decide) (fun _ => ?_) (fun z => absurd rfl z)
    refine lv_goto (off := 416) (tgt := 750) hx hb (by decide +kernel) (by decide) ?_
    exact kk _ _ _ _ hLS inv2 (lv_sub hl [2, 3, 4, 5, 6] rfl)
set_option maxHeartbeats 4000000 in
set_option maxRecDepth 100000 in
theorem cs_literal (C0 : LC p l e s m below meth c b L xs D cI cJ cZ r) (hLS : lwS s D cI cJ cZ r h H locs) (inv : INV h) {i : Nat} (hi : i + 4 ≤ L) {ls : Array Slot} (hl : lv_has ls 8 [(0, .ref b), (1, .ref (r 0)), (2, .ref (r 40)), (3, .ref (r 39)), (4, .int (nI i))]) (hc1 : cells + 1 ≤ 601024) (hc2 : slots + 6 ≤ 7293034)
    (kk : ∀ (h' : sx_H) (H1 : Heap) (locs1 : List Loc) (ls1 : Array Slot), lwS s D cI cJ cZ r h' H1 locs1 → INV h' → lv_has ls1 8 [(0, .ref b), (1, .ref (r 0)), (2, .ref (r 40)), (3, .ref (r 39)), (4, .int (nI i))] → W p l e room_1 s m #[Value.ref b] below meth c H1 locs1 (cells + 1) (slots + 6) (lw_Z below #[Value.ref b] s) (F0 m 750 ls1 [])) :
    W p l e room_1 s m #[Value.ref b] below meth c H locs cells slots (lw_Z below #[Value.ref b] s) (F0 m 337 ls []) := by
  obtain ⟨hA0, hL, hfl, hK, ht⟩ := C0
  obtain ⟨hx, hb, hr, hml, hown, hts', hX, hbl, hlocks, hgv⟩ := hA0
  have hts : ∀ w ∈ sx_tb, w.before _ s = true := fun w hw => hts' w (List.mem_filter.mp hw).1
  have hbA : ¬ lA s b := Nat.not_le.mpr hbl
  have v1 : vp_in (nI i + 1) L := by rw [nI_1]; exact vp_in_nI (by omega) (by omega)
  have v2 : vp_in (nI i + 2) L := by rw [show nI i + 2 = nI (i + 2) from nI_add i 2]; exact vp_in_nI (by omega) (by omega)
  have v3 : vp_in (nI i + 3) L := by rw [show nI i + 3 = nI (i + 3) from nI_add i 3]; exact vp_in_nI (by omega) (by omega)
  refine lv_aload_n hx hb (k := 1) (by decide +kernel) rfl (lv_at hl 1 rfl) ?_
  refine lv_aload_n hx hb (k := 0) (by decide +kernel) rfl (lv_at hl 0 rfl) ?_
  refine lv_iload hx hb (i := 4) (by decide +kernel) (lv_at hl 4 rfl) ?_
  refine lv_iconst (n := 1) (v := 1) hx hb (by decide +kernel) (by decide) ?_
  refine lv_iadd hx hb (by decide +kernel) ?_
  refine va_sld hx hb hX hbl hbA hLS.2.2.1 v1 (by decide +kernel) ?_
  refine lv_aload_n hx hb (k := 0) (by decide +kernel) rfl (lv_at hl 0 rfl) ?_
  refine lv_iload hx hb (i := 4) (by decide +kernel) (lv_at hl 4 rfl) ?_
  refine lv_iconst (n := 2) (v := 2) hx hb (by decide +kernel) (by decide) ?_
  refine lv_iadd hx hb (by decide +kernel) ?_
  refine va_sld hx hb hX hbl hbA hLS.2.2.1 v2 (by decide +kernel) ?_
  refine lv_aload_n hx hb (k := 3) (by decide +kernel) rfl (lv_at hl 3 rfl) ?_
  refine lw_callS (index := 74) (as := [.ref 0, .int (xs (Int32.toNatClampNeg (nI i + 1))), .int (xs (Int32.toNatClampNeg (nI i + 2))), .ref 39]) (rest := []) hx hb hown hts ht hK (h_literal l hfl D cI cJ cZ r h H.size (Q := B1 111 [some (.ref 40), some (.int (xs (Int32.toNatClampNeg (nI i + 1)))), some (.int (xs (Int32.toNatClampNeg (nI i + 2)))), none]) (a_literal inv (xs (Int32.toNatClampNeg (nI i + 1))) (xs (Int32.toNatClampNeg (nI i + 2))))) wh_literal (sx_in_mem (i := 675) (by decide +kernel)) (sx_in_mem (i := 676) (by decide +kernel)) wl_i ⟨by decide, by decide⟩ (show (parseMethodDescriptor yh_literal.desc).map (fun d => d.parameters.length) = some 4 by decide +kernel) (Nat.le_of_ble_eq_true rfl) (Nat.le_of_ble_eq_true rfl) hc1 hc2 hLS (by rw [hml]; exact hl.1) (Nat.le_of_ble_eq_true rfl) (by decide +kernel) (fun v h1 H1 locs1 hq hLS => ?_)
  obtain ⟨k, rfl, HX⟩ := hq
  refine W.eq (g2 := F0 m 354 ls [.int k]) rfl ?_
  refine lv_istore (lv' := [(5, .int k), (0, .ref b), (1, .ref (r 0)), (2, .ref (r 40)), (3, .ref (r 39)), (4, .int (nI i))]) hx hb (i := 5) (by decide +kernel) hl (by decide) rfl (fun ls hl => ?_)
  refine lv_aload_n hx hb (k := 2) (by decide +kernel) rfl (lv_at hl 3 rfl) ?_
  refine lv_aload_n hx hb (k := 0) (by decide +kernel) rfl (lv_at hl 1 rfl) ?_
  refine lv_iload hx hb (i := 4) (by decide +kernel) (lv_at hl 5 rfl) ?_
  refine lv_iconst (n := 1) (v := 1) hx hb (by decide +kernel) (by decide) ?_
  refine lv_iadd hx hb (by decide +kernel) ?_
  refine va_sld hx hb hX hbl hbA hLS.2.2.1 v1 (by decide +kernel) ?_
  refine lv_aload_n hx hb (k := 0) (by decide +kernel) rfl (lv_at hl 1 rfl) ?_
  refine lv_iload hx hb (i := 4) (by decide +kernel) (lv_at hl 5 rfl) ?_
  refine lv_iconst (n := 2) (v := 2) hx hb (by decide +kernel) (by decide) ?_
  refine lv_iadd hx hb (by decide +kernel) ?_
  refine va_sld hx hb hX hbl hbA hLS.2.2.1 v2 (by decide +kernel) ?_
  refine lw_callV (j := 111) (index := 76) (a0 := 40) (ci := 7) (av := [.int (xs (Int32.toNatClampNeg (nI i + 1))), .int (xs (Int32.toNatClampNeg (nI i + 2)))]) (rest := []) hx hb hml hown hts (by decide) (by decide +kernel) (Nat.le_of_ble_eq_true rfl) (fun k h' q => q) (HX) (sx_in_mem (i := 1001) (by decide +kernel)) (by decide +kernel) rfl (by decide +kernel) (sx_in_mem (i := 1003) (by decide +kernel)) (show (parseMethodDescriptor (sx_y 111).desc).map (fun d => d.parameters.length) = some 2 by decide +kernel) (Nat.le_of_ble_eq_true rfl) (Nat.le_of_ble_eq_true rfl) hc1 hc2 hK rfl hLS hl.1 (Nat.le_of_ble_eq_true rfl) (by decide +kernel) (fun v h2 H2 locs2 hq hLS => ?_)
  obtain ⟨bb, rfl⟩ : ∃ z, v = some (.int z) := by
    cases v with
    | none => exact hq.elim
    | some w =>
      cases w with
      | int z => exact ⟨z, rfl⟩
      | _ => exact hq.elim
  refine W.eq (g2 := F0 m 372 ls [.int bb]) rfl ?_
  obtain ⟨q1, q2, inv2⟩ := hq
  refine lv_istore (lv' := [(6, .int bb), (5, .int k), (0, .ref b), (1, .ref (r 0)), (2, .ref (r 40)), (3, .ref (r 39)), (4, .int (nI i))]) hx hb (i := 6) (by decide +kernel) hl (by decide) rfl (fun ls hl => ?_)
  refine lv_aload_n hx hb (k := 2) (by decide +kernel) rfl (lv_at hl 4 rfl) ?_
  refine lw_callV (j := 77) (index := 58) (a0 := 40) (ci := 7) (av := []) (rest := []) hx hb hml hown hts (by decide) (by decide +kernel) (Nat.le_of_ble_eq_true rfl) (fun k h' q => q) (f_thrown (f := fun t h3 => t = h2.1 40 0 ∧ h3 = h2) rfl ⟨rfl, rfl⟩) (sx_in_mem (i := 877) (by decide +kernel)) (by decide +kernel) rfl (by decide +kernel) (sx_in_mem (i := 879) (by decide +kernel)) (show (parseMethodDescriptor (sx_y 77).desc).map (fun d => d.parameters.length) = some 0 by decide +kernel) (Nat.le_of_ble_eq_true rfl) (Nat.le_of_ble_eq_true rfl) hc1 hc2 hK rfl hLS hl.1 (Nat.le_of_ble_eq_true rfl) (by decide +kernel) (fun v h3 H3 locs3 hq hLS => ?_)
  obtain ⟨tt, rfl⟩ : ∃ z, v = some (.int z) := by
    cases v with
    | none => exact hq.elim
    | some w =>
      cases w with
      | int z => exact ⟨z, rfl⟩
      | _ => exact hq.elim
  refine W.eq (g2 := F0 m 378 ls [.int tt]) rfl ?_
  obtain ⟨q3, q4⟩ := hq
  rw [q4] at hLS
  refine lv_iload hx hb (i := 5) (by decide +kernel) (lv_at hl 1 rfl) ?_
  refine lv_icmp_eq (off := 5) (tgt := 385) hx hb (by decide +kernel) (by decide) (fun _ => ?_) (fun z => absurd (q3.trans q1) z)
  refine lv_iload hx hb (i := 5) (by decide +kernel) (lv_at hl 1 rfl) ?_
  refine lv_if_ne (off := 15) (tgt := 402) hx hb (by decide +kernel) (by decide) (fun _ => ?_) (fun z0 => ?_)
  · refine lv_goto (off := 348) (tgt := 750) hx hb (by decide +kernel) (by decide) ?_
    exact kk _ _ _ _ hLS inv2 (lv_sub hl [2, 3, 4, 5, 6] rfl)
  · have q5 := q2 z0
    refine lv_aload_n hx hb (k := 3) (by decide +kernel) rfl (lv_at hl 5 rfl) ?_
    refine lv_iconst (n := 0) (v := 0) hx hb (by decide +kernel) (by decide) ?_
    refine W.lald hx hb (sx_at_l (hLS.2.1 39) rfl) (sx_arrJ hK _ _) (fun q => by cases q) (sx_within (vp_in_nI (n := 0) (by decide) (by decide))) (sx_rd (vp_in_nI (n := 0) (by decide) (by decide))) rfl rfl dl_392 ?_
    refine W.eq (g2 := F0 m 393 ls [.long (h2.2.1 39 0)]) rfl ?_
    refine lv_iload hx hb (i := 6) (by decide +kernel) (lv_at hl 0 rfl) ?_
    refine lv_i2l (v := _) hx hb (by decide +kernel) rfl ?_
    refine W.lcmp hx hb (by decide +kernel) ?_
    rw [q5, lg_self]
    refine lv_if_eq (off := 5) (tgt := 402) hx hb (by decide +kernel) (by decide) (fun _ => ?_) (fun z => absurd rfl z)
    refine lv_goto (off := 348) (tgt := 750) hx hb (by decide +kernel) (by decide) ?_
    exact kk _ _ _ _ hLS inv2 (lv_sub hl [2, 3, 4, 5, 6] rfl)
set_option maxHeartbeats 4000000 in
set_option maxRecDepth 100000 in
theorem cs_depth (C0 : LC p l e s m below meth c b L xs D cI cJ cZ r) (hLS : lwS s D cI cJ cZ r h H locs) (inv : INV h) {i : Nat} (hi : i + 4 ≤ L) {ls : Array Slot} (hl : lv_has ls 8 [(0, .ref b), (1, .ref (r 0)), (2, .ref (r 40)), (3, .ref (r 39)), (4, .int (nI i))]) (hc1 : cells + 1 ≤ 601024) (hc2 : slots + 6 ≤ 7293034)
    (kk : ∀ (h' : sx_H) (H1 : Heap) (locs1 : List Loc) (ls1 : Array Slot), lwS s D cI cJ cZ r h' H1 locs1 → INV h' → lv_has ls1 8 [(0, .ref b), (1, .ref (r 0)), (2, .ref (r 40)), (3, .ref (r 39)), (4, .int (nI i))] → W p l e room_1 s m #[Value.ref b] below meth c H1 locs1 (cells + 1) (slots + 6) (lw_Z below #[Value.ref b] s) (F0 m 750 ls1 [])) :
    W p l e room_1 s m #[Value.ref b] below meth c H locs cells slots (lw_Z below #[Value.ref b] s) (F0 m 405 ls []) := by
  obtain ⟨hA0, hL, hfl, hK, ht⟩ := C0
  obtain ⟨hx, hb, hr, hml, hown, hts', hX, hbl, hlocks, hgv⟩ := hA0
  have hts : ∀ w ∈ sx_tb, w.before _ s = true := fun w hw => hts' w (List.mem_filter.mp hw).1
  have hbA : ¬ lA s b := Nat.not_le.mpr hbl
  have v1 : vp_in (nI i + 1) L := by rw [nI_1]; exact vp_in_nI (by omega) (by omega)
  have v2 : vp_in (nI i + 2) L := by rw [show nI i + 2 = nI (i + 2) from nI_add i 2]; exact vp_in_nI (by omega) (by omega)
  have v3 : vp_in (nI i + 3) L := by rw [show nI i + 3 = nI (i + 3) from nI_add i 3]; exact vp_in_nI (by omega) (by omega)
  refine lv_aload_n hx hb (k := 1) (by decide +kernel) rfl (lv_at hl 1 rfl) ?_
  refine lv_aload_n hx hb (k := 0) (by decide +kernel) rfl (lv_at hl 0 rfl) ?_
  refine lv_iload hx hb (i := 4) (by decide +kernel) (lv_at hl 4 rfl) ?_
  refine lv_iconst (n := 1) (v := 1) hx hb (by decide +kernel) (by decide) ?_
  refine lv_iadd hx hb (by decide +kernel) ?_
  refine va_sld hx hb hX hbl hbA hLS.2.2.1 v1 (by decide +kernel) ?_
  refine lv_aload_n hx hb (k := 3) (by decide +kernel) rfl (lv_at hl 3 rfl) ?_
  refine lw_callS (index := 77) (as := [.ref 0, .int (xs (Int32.toNatClampNeg (nI i + 1))), .ref 39]) (rest := []) hx hb hown hts ht hK (h_depth l hfl D cI cJ cZ r h H.size (Q := B1 112 [some (.ref 40), some (.int (xs (Int32.toNatClampNeg (nI i + 1))))]) (a_depth inv (xs (Int32.toNatClampNeg (nI i + 1))))) wh_depth (sx_in_mem (i := 707) (by decide +kernel)) (sx_in_mem (i := 708) (by decide +kernel)) wl_i ⟨by decide, by decide⟩ (show (parseMethodDescriptor yh_depth.desc).map (fun d => d.parameters.length) = some 3 by decide +kernel) (Nat.le_of_ble_eq_true rfl) (Nat.le_of_ble_eq_true rfl) hc1 hc2 hLS (by rw [hml]; exact hl.1) (Nat.le_of_ble_eq_true rfl) (by decide +kernel) (fun v h1 H1 locs1 hq hLS => ?_)
  obtain ⟨k, rfl, HX⟩ := hq
  refine W.eq (g2 := F0 m 416 ls [.int k]) rfl ?_
  refine lv_istore (lv' := [(5, .int k), (0, .ref b), (1, .ref (r 0)), (2, .ref (r 40)), (3, .ref (r 39)), (4, .int (nI i))]) hx hb (i := 5) (by decide +kernel) hl (by decide) rfl (fun ls hl => ?_)
  refine lv_aload_n hx hb (k := 2) (by decide +kernel) rfl (lv_at hl 3 rfl) ?_
  refine lv_aload_n hx hb (k := 0) (by decide +kernel) rfl (lv_at hl 1 rfl) ?_
  refine lv_iload hx hb (i := 4) (by decide +kernel) (lv_at hl 5 rfl) ?_
  refine lv_iconst (n := 1) (v := 1) hx hb (by decide +kernel) (by decide) ?_
  refine lv_iadd hx hb (by decide +kernel) ?_
  refine va_sld hx hb hX hbl hbA hLS.2.2.1 v1 (by decide +kernel) ?_
  refine lw_callV (j := 112) (index := 79) (a0 := 40) (ci := 7) (av := [.int (xs (Int32.toNatClampNeg (nI i + 1)))]) (rest := []) hx hb hml hown hts (by decide) (by decide +kernel) (Nat.le_of_ble_eq_true rfl) (fun k h' q => q) (HX) (sx_in_mem (i := 1005) (by decide +kernel)) (by decide +kernel) rfl (by decide +kernel) (sx_in_mem (i := 1007) (by decide +kernel)) (show (parseMethodDescriptor (sx_y 112).desc).map (fun d => d.parameters.length) = some 1 by decide +kernel) (Nat.le_of_ble_eq_true rfl) (Nat.le_of_ble_eq_true rfl) hc1 hc2 hK rfl hLS hl.1 (Nat.le_of_ble_eq_true rfl) (by decide +kernel) (fun v h2 H2 locs2 hq hLS => ?_)
  obtain ⟨bb, rfl⟩ : ∃ z, v = some (.int z) := by
    cases v with
    | none => exact hq.elim
    | some w =>
      cases w with
      | int z => exact ⟨z, rfl⟩
      | _ => exact hq.elim
  refine W.eq (g2 := F0 m 428 ls [.int bb]) rfl ?_
  obtain ⟨q1, q2, inv2⟩ := hq
  refine lv_istore (lv' := [(6, .int bb), (5, .int k), (0, .ref b), (1, .ref (r 0)), (2, .ref (r 40)), (3, .ref (r 39)), (4, .int (nI i))]) hx hb (i := 6) (by decide +kernel) hl (by decide) rfl (fun ls hl => ?_)
  refine lv_aload_n hx hb (k := 2) (by decide +kernel) rfl (lv_at hl 4 rfl) ?_
  refine lw_callV (j := 77) (index := 58) (a0 := 40) (ci := 7) (av := []) (rest := []) hx hb hml hown hts (by decide) (by decide +kernel) (Nat.le_of_ble_eq_true rfl) (fun k h' q => q) (f_thrown (f := fun t h3 => t = h2.1 40 0 ∧ h3 = h2) rfl ⟨rfl, rfl⟩) (sx_in_mem (i := 877) (by decide +kernel)) (by decide +kernel) rfl (by decide +kernel) (sx_in_mem (i := 879) (by decide +kernel)) (show (parseMethodDescriptor (sx_y 77).desc).map (fun d => d.parameters.length) = some 0 by decide +kernel) (Nat.le_of_ble_eq_true rfl) (Nat.le_of_ble_eq_true rfl) hc1 hc2 hK rfl hLS hl.1 (Nat.le_of_ble_eq_true rfl) (by decide +kernel) (fun v h3 H3 locs3 hq hLS => ?_)
  obtain ⟨tt, rfl⟩ : ∃ z, v = some (.int z) := by
    cases v with
    | none => exact hq.elim
    | some w =>
      cases w with
      | int z => exact ⟨z, rfl⟩
      | _ => exact hq.elim
  refine W.eq (g2 := F0 m 434 ls [.int tt]) rfl ?_
  obtain ⟨q3, q4⟩ := hq
  rw [q4] at hLS
  refine lv_iload hx hb (i := 5) (by decide +kernel) (lv_at hl 1 rfl) ?_
  refine lv_icmp_eq (off := 5) (tgt := 441) hx hb (by decide +kernel) (by decide) (fun _ => ?_) (fun z => absurd (q3.trans q1) z)
  refine lv_iload hx hb (i := 5) (by decide +kernel) (lv_at hl 1 rfl) ?_
  refine lv_if_ne (off := 15) (tgt := 458) hx hb (by decide +kernel) (by decide) (fun _ => ?_) (fun z0 => ?_)
  · refine lv_goto (off := 292) (tgt := 750) hx hb (by decide +kernel) (by decide) ?_
    exact kk _ _ _ _ hLS inv2 (lv_sub hl [2, 3, 4, 5, 6] rfl)
  · have q5 := q2 z0
    refine lv_aload_n hx hb (k := 3) (by decide +kernel) rfl (lv_at hl 5 rfl) ?_
    refine lv_iconst (n := 0) (v := 0) hx hb (by decide +kernel) (by decide) ?_
    refine W.lald hx hb (sx_at_l (hLS.2.1 39) rfl) (sx_arrJ hK _ _) (fun q => by cases q) (sx_within (vp_in_nI (n := 0) (by decide) (by decide))) (sx_rd (vp_in_nI (n := 0) (by decide) (by decide))) rfl rfl dl_448 ?_
    refine W.eq (g2 := F0 m 449 ls [.long (h2.2.1 39 0)]) rfl ?_
    refine lv_iload hx hb (i := 6) (by decide +kernel) (lv_at hl 0 rfl) ?_
    refine lv_i2l (v := _) hx hb (by decide +kernel) rfl ?_
    refine W.lcmp hx hb (by decide +kernel) ?_
    rw [q5, lg_self]
    refine lv_if_eq (off := 5) (tgt := 458) hx hb (by decide +kernel) (by decide) (fun _ => ?_) (fun z => absurd rfl z)
    refine lv_goto (off := 292) (tgt := 750) hx hb (by decide +kernel) (by decide) ?_
    exact kk _ _ _ _ hLS inv2 (lv_sub hl [2, 3, 4, 5, 6] rfl)
set_option maxHeartbeats 4000000 in
set_option maxRecDepth 100000 in
theorem cs_cone (C0 : LC p l e s m below meth c b L xs D cI cJ cZ r) (hLS : lwS s D cI cJ cZ r h H locs) (inv : INV h) {i : Nat} (hi : i + 4 ≤ L) {ls : Array Slot} (hl : lv_has ls 8 [(0, .ref b), (1, .ref (r 0)), (2, .ref (r 40)), (3, .ref (r 39)), (4, .int (nI i))]) (hc1 : cells + 1 ≤ 601024) (hc2 : slots + 6 ≤ 7293034)
    (kk : ∀ (h' : sx_H) (H1 : Heap) (locs1 : List Loc) (ls1 : Array Slot), lwS s D cI cJ cZ r h' H1 locs1 → INV h' → lv_has ls1 8 [(0, .ref b), (1, .ref (r 0)), (2, .ref (r 40)), (3, .ref (r 39)), (4, .int (nI i))] → W p l e room_1 s m #[Value.ref b] below meth c H1 locs1 (cells + 1) (slots + 6) (lw_Z below #[Value.ref b] s) (F0 m 750 ls1 [])) :
    W p l e room_1 s m #[Value.ref b] below meth c H locs cells slots (lw_Z below #[Value.ref b] s) (F0 m 461 ls []) := by
  obtain ⟨hA0, hL, hfl, hK, ht⟩ := C0
  obtain ⟨hx, hb, hr, hml, hown, hts', hX, hbl, hlocks, hgv⟩ := hA0
  have hts : ∀ w ∈ sx_tb, w.before _ s = true := fun w hw => hts' w (List.mem_filter.mp hw).1
  have hbA : ¬ lA s b := Nat.not_le.mpr hbl
  have v1 : vp_in (nI i + 1) L := by rw [nI_1]; exact vp_in_nI (by omega) (by omega)
  have v2 : vp_in (nI i + 2) L := by rw [show nI i + 2 = nI (i + 2) from nI_add i 2]; exact vp_in_nI (by omega) (by omega)
  have v3 : vp_in (nI i + 3) L := by rw [show nI i + 3 = nI (i + 3) from nI_add i 3]; exact vp_in_nI (by omega) (by omega)
  refine lv_aload_n hx hb (k := 1) (by decide +kernel) rfl (lv_at hl 1 rfl) ?_
  refine lv_aload_n hx hb (k := 0) (by decide +kernel) rfl (lv_at hl 0 rfl) ?_
  refine lv_iload hx hb (i := 4) (by decide +kernel) (lv_at hl 4 rfl) ?_
  refine lv_iconst (n := 1) (v := 1) hx hb (by decide +kernel) (by decide) ?_
  refine lv_iadd hx hb (by decide +kernel) ?_
  refine va_sld hx hb hX hbl hbA hLS.2.2.1 v1 (by decide +kernel) ?_
  refine lv_aload_n hx hb (k := 3) (by decide +kernel) rfl (lv_at hl 3 rfl) ?_
  refine lw_callS (index := 80) (as := [.ref 0, .int (xs (Int32.toNatClampNeg (nI i + 1))), .ref 39]) (rest := []) hx hb hown hts ht hK (h_cone l hfl D cI cJ cZ r h H.size (Q := B1 113 [some (.ref 40), some (.int (xs (Int32.toNatClampNeg (nI i + 1))))]) (a_cone inv (xs (Int32.toNatClampNeg (nI i + 1))))) wh_cone (sx_in_mem (i := 714) (by decide +kernel)) (sx_in_mem (i := 715) (by decide +kernel)) wl_i ⟨by decide, by decide⟩ (show (parseMethodDescriptor yh_cone.desc).map (fun d => d.parameters.length) = some 3 by decide +kernel) (Nat.le_of_ble_eq_true rfl) (Nat.le_of_ble_eq_true rfl) hc1 hc2 hLS (by rw [hml]; exact hl.1) (Nat.le_of_ble_eq_true rfl) (by decide +kernel) (fun v h1 H1 locs1 hq hLS => ?_)
  obtain ⟨k, rfl, HX⟩ := hq
  refine W.eq (g2 := F0 m 472 ls [.int k]) rfl ?_
  refine lv_istore (lv' := [(5, .int k), (0, .ref b), (1, .ref (r 0)), (2, .ref (r 40)), (3, .ref (r 39)), (4, .int (nI i))]) hx hb (i := 5) (by decide +kernel) hl (by decide) rfl (fun ls hl => ?_)
  refine lv_aload_n hx hb (k := 2) (by decide +kernel) rfl (lv_at hl 3 rfl) ?_
  refine lv_aload_n hx hb (k := 0) (by decide +kernel) rfl (lv_at hl 1 rfl) ?_
  refine lv_iload hx hb (i := 4) (by decide +kernel) (lv_at hl 5 rfl) ?_
  refine lv_iconst (n := 1) (v := 1) hx hb (by decide +kernel) (by decide) ?_
  refine lv_iadd hx hb (by decide +kernel) ?_
  refine va_sld hx hb hX hbl hbA hLS.2.2.1 v1 (by decide +kernel) ?_
  refine lw_callV (j := 113) (index := 82) (a0 := 40) (ci := 7) (av := [.int (xs (Int32.toNatClampNeg (nI i + 1)))]) (rest := []) hx hb hml hown hts (by decide) (by decide +kernel) (Nat.le_of_ble_eq_true rfl) (fun k h' q => q) (HX) (sx_in_mem (i := 1009) (by decide +kernel)) (by decide +kernel) rfl (by decide +kernel) (sx_in_mem (i := 1011) (by decide +kernel)) (show (parseMethodDescriptor (sx_y 113).desc).map (fun d => d.parameters.length) = some 1 by decide +kernel) (Nat.le_of_ble_eq_true rfl) (Nat.le_of_ble_eq_true rfl) hc1 hc2 hK rfl hLS hl.1 (Nat.le_of_ble_eq_true rfl) (by decide +kernel) (fun v h2 H2 locs2 hq hLS => ?_)
  obtain ⟨bb, rfl⟩ : ∃ z, v = some (.int z) := by
    cases v with
    | none => exact hq.elim
    | some w =>
      cases w with
      | int z => exact ⟨z, rfl⟩
      | _ => exact hq.elim
  refine W.eq (g2 := F0 m 484 ls [.int bb]) rfl ?_
  obtain ⟨q1, q2, inv2⟩ := hq
  refine lv_istore (lv' := [(6, .int bb), (5, .int k), (0, .ref b), (1, .ref (r 0)), (2, .ref (r 40)), (3, .ref (r 39)), (4, .int (nI i))]) hx hb (i := 6) (by decide +kernel) hl (by decide) rfl (fun ls hl => ?_)
  refine lv_aload_n hx hb (k := 2) (by decide +kernel) rfl (lv_at hl 4 rfl) ?_
  refine lw_callV (j := 77) (index := 58) (a0 := 40) (ci := 7) (av := []) (rest := []) hx hb hml hown hts (by decide) (by decide +kernel) (Nat.le_of_ble_eq_true rfl) (fun k h' q => q) (f_thrown (f := fun t h3 => t = h2.1 40 0 ∧ h3 = h2) rfl ⟨rfl, rfl⟩) (sx_in_mem (i := 877) (by decide +kernel)) (by decide +kernel) rfl (by decide +kernel) (sx_in_mem (i := 879) (by decide +kernel)) (show (parseMethodDescriptor (sx_y 77).desc).map (fun d => d.parameters.length) = some 0 by decide +kernel) (Nat.le_of_ble_eq_true rfl) (Nat.le_of_ble_eq_true rfl) hc1 hc2 hK rfl hLS hl.1 (Nat.le_of_ble_eq_true rfl) (by decide +kernel) (fun v h3 H3 locs3 hq hLS => ?_)
  obtain ⟨tt, rfl⟩ : ∃ z, v = some (.int z) := by
    cases v with
    | none => exact hq.elim
    | some w =>
      cases w with
      | int z => exact ⟨z, rfl⟩
      | _ => exact hq.elim
  refine W.eq (g2 := F0 m 490 ls [.int tt]) rfl ?_
  obtain ⟨q3, q4⟩ := hq
  rw [q4] at hLS
  refine lv_iload hx hb (i := 5) (by decide +kernel) (lv_at hl 1 rfl) ?_
  refine lv_icmp_eq (off := 5) (tgt := 497) hx hb (by decide +kernel) (by decide) (fun _ => ?_) (fun z => absurd (q3.trans q1) z)
  refine lv_iload hx hb (i := 5) (by decide +kernel) (lv_at hl 1 rfl) ?_
  refine lv_if_ne (off := 15) (tgt := 514) hx hb (by decide +kernel) (by decide) (fun _ => ?_) (fun z0 => ?_)
  · refine lv_goto (off := 236) (tgt := 750) hx hb (by decide +kernel) (by decide) ?_
    exact kk _ _ _ _ hLS inv2 (lv_sub hl [2, 3, 4, 5, 6] rfl)
  · have q5 := q2 z0
    refine lv_aload_n hx hb (k := 3) (by decide +kernel) rfl (lv_at hl 5 rfl) ?_
    refine lv_iconst (n := 0) (v := 0) hx hb (by decide +kernel) (by decide) ?_
    refine W.lald hx hb (sx_at_l (hLS.2.1 39) rfl) (sx_arrJ hK _ _) (fun q => by cases q) (sx_within (vp_in_nI (n := 0) (by decide) (by decide))) (sx_rd (vp_in_nI (n := 0) (by decide) (by decide))) rfl rfl dl_504 ?_
    refine W.eq (g2 := F0 m 505 ls [.long (h2.2.1 39 0)]) rfl ?_
    refine lv_iload hx hb (i := 6) (by decide +kernel) (lv_at hl 0 rfl) ?_
    refine lv_i2l (v := _) hx hb (by decide +kernel) rfl ?_
    refine W.lcmp hx hb (by decide +kernel) ?_
    rw [q5, lg_self]
    refine lv_if_eq (off := 5) (tgt := 514) hx hb (by decide +kernel) (by decide) (fun _ => ?_) (fun z => absurd rfl z)
    refine lv_goto (off := 236) (tgt := 750) hx hb (by decide +kernel) (by decide) ?_
    exact kk _ _ _ _ hLS inv2 (lv_sub hl [2, 3, 4, 5, 6] rfl)
set_option maxHeartbeats 4000000 in
set_option maxRecDepth 100000 in
theorem cs_alike (C0 : LC p l e s m below meth c b L xs D cI cJ cZ r) (hLS : lwS s D cI cJ cZ r h H locs) (inv : INV h) {i : Nat} (hi : i + 4 ≤ L) {ls : Array Slot} (hl : lv_has ls 8 [(0, .ref b), (1, .ref (r 0)), (2, .ref (r 40)), (3, .ref (r 39)), (4, .int (nI i))]) (hc1 : cells + 1 ≤ 601024) (hc2 : slots + 6 ≤ 7293034)
    (kk : ∀ (h' : sx_H) (H1 : Heap) (locs1 : List Loc) (ls1 : Array Slot), lwS s D cI cJ cZ r h' H1 locs1 → INV h' → lv_has ls1 8 [(0, .ref b), (1, .ref (r 0)), (2, .ref (r 40)), (3, .ref (r 39)), (4, .int (nI i))] → W p l e room_1 s m #[Value.ref b] below meth c H1 locs1 (cells + 1) (slots + 6) (lw_Z below #[Value.ref b] s) (F0 m 750 ls1 [])) :
    W p l e room_1 s m #[Value.ref b] below meth c H locs cells slots (lw_Z below #[Value.ref b] s) (F0 m 530 ls []) := by
  obtain ⟨hA0, hL, hfl, hK, ht⟩ := C0
  obtain ⟨hx, hb, hr, hml, hown, hts', hX, hbl, hlocks, hgv⟩ := hA0
  have hts : ∀ w ∈ sx_tb, w.before _ s = true := fun w hw => hts' w (List.mem_filter.mp hw).1
  have hbA : ¬ lA s b := Nat.not_le.mpr hbl
  have v1 : vp_in (nI i + 1) L := by rw [nI_1]; exact vp_in_nI (by omega) (by omega)
  have v2 : vp_in (nI i + 2) L := by rw [show nI i + 2 = nI (i + 2) from nI_add i 2]; exact vp_in_nI (by omega) (by omega)
  have v3 : vp_in (nI i + 3) L := by rw [show nI i + 3 = nI (i + 3) from nI_add i 3]; exact vp_in_nI (by omega) (by omega)
  refine lv_aload_n hx hb (k := 1) (by decide +kernel) rfl (lv_at hl 1 rfl) ?_
  refine lv_aload_n hx hb (k := 0) (by decide +kernel) rfl (lv_at hl 0 rfl) ?_
  refine lv_iload hx hb (i := 4) (by decide +kernel) (lv_at hl 4 rfl) ?_
  refine lv_iconst (n := 1) (v := 1) hx hb (by decide +kernel) (by decide) ?_
  refine lv_iadd hx hb (by decide +kernel) ?_
  refine va_sld hx hb hX hbl hbA hLS.2.2.1 v1 (by decide +kernel) ?_
  refine lv_aload_n hx hb (k := 0) (by decide +kernel) rfl (lv_at hl 0 rfl) ?_
  refine lv_iload hx hb (i := 4) (by decide +kernel) (lv_at hl 4 rfl) ?_
  refine lv_iconst (n := 2) (v := 2) hx hb (by decide +kernel) (by decide) ?_
  refine lv_iadd hx hb (by decide +kernel) ?_
  refine va_sld hx hb hX hbl hbA hLS.2.2.1 v2 (by decide +kernel) ?_
  refine lv_aload_n hx hb (k := 3) (by decide +kernel) rfl (lv_at hl 3 rfl) ?_
  refine lw_callS (index := 87) (as := [.ref 0, .int (xs (Int32.toNatClampNeg (nI i + 1))), .int (xs (Int32.toNatClampNeg (nI i + 2))), .ref 39]) (rest := []) hx hb hown hts ht hK (h_alike l hfl D cI cJ cZ r h H.size (Q := B1 107 [some (.ref 40), some (.int (xs (Int32.toNatClampNeg (nI i + 1)))), some (.int (xs (Int32.toNatClampNeg (nI i + 2)))), none, none]) (a_alike inv (xs (Int32.toNatClampNeg (nI i + 1))) (xs (Int32.toNatClampNeg (nI i + 2))))) wh_alike (sx_in_mem (i := 725) (by decide +kernel)) (sx_in_mem (i := 726) (by decide +kernel)) wl_i ⟨by decide, by decide⟩ (show (parseMethodDescriptor yh_alike.desc).map (fun d => d.parameters.length) = some 4 by decide +kernel) (Nat.le_of_ble_eq_true rfl) (Nat.le_of_ble_eq_true rfl) hc1 hc2 hLS (by rw [hml]; exact hl.1) (Nat.le_of_ble_eq_true rfl) (by decide +kernel) (fun v h1 H1 locs1 hq hLS => ?_)
  obtain ⟨k, rfl, HX⟩ := hq
  refine W.eq (g2 := F0 m 547 ls [.int k]) rfl ?_
  refine lv_istore (lv' := [(5, .int k), (0, .ref b), (1, .ref (r 0)), (2, .ref (r 40)), (3, .ref (r 39)), (4, .int (nI i))]) hx hb (i := 5) (by decide +kernel) hl (by decide) rfl (fun ls hl => ?_)
  refine lv_aload_n hx hb (k := 2) (by decide +kernel) rfl (lv_at hl 3 rfl) ?_
  refine lv_aload_n hx hb (k := 0) (by decide +kernel) rfl (lv_at hl 1 rfl) ?_
  refine lv_iload hx hb (i := 4) (by decide +kernel) (lv_at hl 5 rfl) ?_
  refine lv_iconst (n := 1) (v := 1) hx hb (by decide +kernel) (by decide) ?_
  refine lv_iadd hx hb (by decide +kernel) ?_
  refine va_sld hx hb hX hbl hbA hLS.2.2.1 v1 (by decide +kernel) ?_
  refine lv_aload_n hx hb (k := 0) (by decide +kernel) rfl (lv_at hl 1 rfl) ?_
  refine lv_iload hx hb (i := 4) (by decide +kernel) (lv_at hl 5 rfl) ?_
  refine lv_iconst (n := 2) (v := 2) hx hb (by decide +kernel) (by decide) ?_
  refine lv_iadd hx hb (by decide +kernel) ?_
  refine va_sld hx hb hX hbl hbA hLS.2.2.1 v2 (by decide +kernel) ?_
  refine lw_callV (j := 107) (index := 89) (a0 := 40) (ci := 7) (av := [.int (xs (Int32.toNatClampNeg (nI i + 1))), .int (xs (Int32.toNatClampNeg (nI i + 2)))]) (rest := []) hx hb hml hown hts (by decide) (by decide +kernel) (Nat.le_of_ble_eq_true rfl) (fun k h' q => q) (HX) (sx_in_mem (i := 964) (by decide +kernel)) (by decide +kernel) rfl (by decide +kernel) (sx_in_mem (i := 966) (by decide +kernel)) (show (parseMethodDescriptor (sx_y 107).desc).map (fun d => d.parameters.length) = some 2 by decide +kernel) (Nat.le_of_ble_eq_true rfl) (Nat.le_of_ble_eq_true rfl) hc1 hc2 hK rfl hLS hl.1 (Nat.le_of_ble_eq_true rfl) (by decide +kernel) (fun v h2 H2 locs2 hq hLS => ?_)
  obtain ⟨bb, rfl⟩ : ∃ z, v = some (.int z) := by
    cases v with
    | none => exact hq.elim
    | some w =>
      cases w with
      | int z => exact ⟨z, rfl⟩
      | _ => exact hq.elim
  refine W.eq (g2 := F0 m 565 ls [.int bb]) rfl ?_
  obtain ⟨q1, q2, inv2⟩ := hq
  refine lv_istore (lv' := [(6, .int bb), (5, .int k), (0, .ref b), (1, .ref (r 0)), (2, .ref (r 40)), (3, .ref (r 39)), (4, .int (nI i))]) hx hb (i := 6) (by decide +kernel) hl (by decide) rfl (fun ls hl => ?_)
  refine lv_aload_n hx hb (k := 2) (by decide +kernel) rfl (lv_at hl 4 rfl) ?_
  refine lw_callV (j := 77) (index := 58) (a0 := 40) (ci := 7) (av := []) (rest := []) hx hb hml hown hts (by decide) (by decide +kernel) (Nat.le_of_ble_eq_true rfl) (fun k h' q => q) (f_thrown (f := fun t h3 => t = h2.1 40 0 ∧ h3 = h2) rfl ⟨rfl, rfl⟩) (sx_in_mem (i := 877) (by decide +kernel)) (by decide +kernel) rfl (by decide +kernel) (sx_in_mem (i := 879) (by decide +kernel)) (show (parseMethodDescriptor (sx_y 77).desc).map (fun d => d.parameters.length) = some 0 by decide +kernel) (Nat.le_of_ble_eq_true rfl) (Nat.le_of_ble_eq_true rfl) hc1 hc2 hK rfl hLS hl.1 (Nat.le_of_ble_eq_true rfl) (by decide +kernel) (fun v h3 H3 locs3 hq hLS => ?_)
  obtain ⟨tt, rfl⟩ : ∃ z, v = some (.int z) := by
    cases v with
    | none => exact hq.elim
    | some w =>
      cases w with
      | int z => exact ⟨z, rfl⟩
      | _ => exact hq.elim
  refine W.eq (g2 := F0 m 571 ls [.int tt]) rfl ?_
  obtain ⟨q3, q4⟩ := hq
  rw [q4] at hLS
  refine lv_iload hx hb (i := 5) (by decide +kernel) (lv_at hl 1 rfl) ?_
  refine lv_icmp_eq (off := 5) (tgt := 578) hx hb (by decide +kernel) (by decide) (fun _ => ?_) (fun z => absurd (q3.trans q1) z)
  refine lv_iload hx hb (i := 5) (by decide +kernel) (lv_at hl 1 rfl) ?_
  refine lv_if_ne (off := 15) (tgt := 595) hx hb (by decide +kernel) (by decide) (fun _ => ?_) (fun z0 => ?_)
  · refine lv_goto (off := 155) (tgt := 750) hx hb (by decide +kernel) (by decide) ?_
    exact kk _ _ _ _ hLS inv2 (lv_sub hl [2, 3, 4, 5, 6] rfl)
  · have q5 := q2 z0
    refine lv_aload_n hx hb (k := 3) (by decide +kernel) rfl (lv_at hl 5 rfl) ?_
    refine lv_iconst (n := 0) (v := 0) hx hb (by decide +kernel) (by decide) ?_
    refine W.lald hx hb (sx_at_l (hLS.2.1 39) rfl) (sx_arrJ hK _ _) (fun q => by cases q) (sx_within (vp_in_nI (n := 0) (by decide) (by decide))) (sx_rd (vp_in_nI (n := 0) (by decide) (by decide))) rfl rfl dl_585 ?_
    refine W.eq (g2 := F0 m 586 ls [.long (h2.2.1 39 0)]) rfl ?_
    refine lv_iload hx hb (i := 6) (by decide +kernel) (lv_at hl 0 rfl) ?_
    refine lv_i2l (v := _) hx hb (by decide +kernel) rfl ?_
    refine W.lcmp hx hb (by decide +kernel) ?_
    rw [q5, lg_self]
    refine lv_if_eq (off := 5) (tgt := 595) hx hb (by decide +kernel) (by decide) (fun _ => ?_) (fun z => absurd rfl z)
    refine lv_goto (off := 155) (tgt := 750) hx hb (by decide +kernel) (by decide) ?_
    exact kk _ _ _ _ hLS inv2 (lv_sub hl [2, 3, 4, 5, 6] rfl)
set_option maxHeartbeats 4000000 in
set_option maxRecDepth 100000 in
theorem cs_out (C0 : LC p l e s m below meth c b L xs D cI cJ cZ r) (hLS : lwS s D cI cJ cZ r h H locs) (inv : INV h) {i : Nat} (hi : i + 4 ≤ L) {ls : Array Slot} (hl : lv_has ls 8 [(0, .ref b), (1, .ref (r 0)), (2, .ref (r 40)), (3, .ref (r 39)), (4, .int (nI i))]) (hc1 : cells + 1 ≤ 601024) (hc2 : slots + 6 ≤ 7293034)
    (kk : ∀ (h' : sx_H) (H1 : Heap) (locs1 : List Loc) (ls1 : Array Slot), lwS s D cI cJ cZ r h' H1 locs1 → INV h' → lv_has ls1 8 [(0, .ref b), (1, .ref (r 0)), (2, .ref (r 40)), (3, .ref (r 39)), (4, .int (nI i))] → W p l e room_1 s m #[Value.ref b] below meth c H1 locs1 (cells + 1) (slots + 6) (lw_Z below #[Value.ref b] s) (F0 m 750 ls1 [])) :
    W p l e room_1 s m #[Value.ref b] below meth c H locs cells slots (lw_Z below #[Value.ref b] s) (F0 m 639 ls []) := by
  obtain ⟨hA0, hL, hfl, hK, ht⟩ := C0
  obtain ⟨hx, hb, hr, hml, hown, hts', hX, hbl, hlocks, hgv⟩ := hA0
  have hts : ∀ w ∈ sx_tb, w.before _ s = true := fun w hw => hts' w (List.mem_filter.mp hw).1
  have hbA : ¬ lA s b := Nat.not_le.mpr hbl
  have v1 : vp_in (nI i + 1) L := by rw [nI_1]; exact vp_in_nI (by omega) (by omega)
  have v2 : vp_in (nI i + 2) L := by rw [show nI i + 2 = nI (i + 2) from nI_add i 2]; exact vp_in_nI (by omega) (by omega)
  have v3 : vp_in (nI i + 3) L := by rw [show nI i + 3 = nI (i + 3) from nI_add i 3]; exact vp_in_nI (by omega) (by omega)
  refine lv_aload_n hx hb (k := 1) (by decide +kernel) rfl (lv_at hl 1 rfl) ?_
  refine lv_aload_n hx hb (k := 0) (by decide +kernel) rfl (lv_at hl 0 rfl) ?_
  refine lv_iload hx hb (i := 4) (by decide +kernel) (lv_at hl 4 rfl) ?_
  refine lv_iconst (n := 1) (v := 1) hx hb (by decide +kernel) (by decide) ?_
  refine lv_iadd hx hb (by decide +kernel) ?_
  refine va_sld hx hb hX hbl hbA hLS.2.2.1 v1 (by decide +kernel) ?_
  refine lv_aload_n hx hb (k := 3) (by decide +kernel) rfl (lv_at hl 3 rfl) ?_
  refine lw_callS (index := 95) (as := [.ref 0, .int (xs (Int32.toNatClampNeg (nI i + 1))), .ref 39]) (rest := []) hx hb hown hts ht hK (h_out l hfl D cI cJ cZ r h H.size (Q := B2 120 [some (.ref 40), some (.int (xs (Int32.toNatClampNeg (nI i + 1)))), none, none, none]) (a_out inv (xs (Int32.toNatClampNeg (nI i + 1))))) wh_out (sx_in_mem (i := 734) (by decide +kernel)) (sx_in_mem (i := 735) (by decide +kernel)) wl_i ⟨by decide, by decide⟩ (show (parseMethodDescriptor yh_out.desc).map (fun d => d.parameters.length) = some 3 by decide +kernel) (Nat.le_of_ble_eq_true rfl) (Nat.le_of_ble_eq_true rfl) hc1 hc2 hLS (by rw [hml]; exact hl.1) (Nat.le_of_ble_eq_true rfl) (by decide +kernel) (fun v h1 H1 locs1 hq hLS => ?_)
  obtain ⟨k, rfl, HX⟩ := hq
  refine W.eq (g2 := F0 m 650 ls [.int k]) rfl ?_
  refine lv_istore (lv' := [(5, .int k), (0, .ref b), (1, .ref (r 0)), (2, .ref (r 40)), (3, .ref (r 39)), (4, .int (nI i))]) hx hb (i := 5) (by decide +kernel) hl (by decide) rfl (fun ls hl => ?_)
  refine lv_aload_n hx hb (k := 2) (by decide +kernel) rfl (lv_at hl 3 rfl) ?_
  refine lv_aload_n hx hb (k := 0) (by decide +kernel) rfl (lv_at hl 1 rfl) ?_
  refine lv_iload hx hb (i := 4) (by decide +kernel) (lv_at hl 5 rfl) ?_
  refine lv_iconst (n := 1) (v := 1) hx hb (by decide +kernel) (by decide) ?_
  refine lv_iadd hx hb (by decide +kernel) ?_
  refine va_sld hx hb hX hbl hbA hLS.2.2.1 v1 (by decide +kernel) ?_
  refine lw_callV (j := 120) (index := 97) (a0 := 40) (ci := 7) (av := [.int (xs (Int32.toNatClampNeg (nI i + 1)))]) (rest := []) hx hb hml hown hts (by decide) (by decide +kernel) (Nat.le_of_ble_eq_true rfl) (fun k h' q => q) (HX) (sx_in_mem (i := 1049) (by decide +kernel)) (by decide +kernel) rfl (by decide +kernel) (sx_in_mem (i := 1051) (by decide +kernel)) (show (parseMethodDescriptor (sx_y 120).desc).map (fun d => d.parameters.length) = some 1 by decide +kernel) (Nat.le_of_ble_eq_true rfl) (Nat.le_of_ble_eq_true rfl) hc1 hc2 hK rfl hLS hl.1 (Nat.le_of_ble_eq_true rfl) (by decide +kernel) (fun v h2 H2 locs2 hq hLS => ?_)
  obtain ⟨bb, rfl⟩ : ∃ z, v = some (.long z) := by
    cases v with
    | none => exact hq.elim
    | some w =>
      cases w with
      | long z => exact ⟨z, rfl⟩
      | _ => exact hq.elim
  refine W.eq (g2 := F0 m 662 ls [.long bb]) rfl ?_
  obtain ⟨q1, q2, inv2⟩ := hq
  refine lv_lstore (lv' := [(6, .long bb), (5, .int k), (0, .ref b), (1, .ref (r 0)), (2, .ref (r 40)), (3, .ref (r 39)), (4, .int (nI i))]) hx hb (i := 6) (by decide +kernel) hl (by decide) rfl (fun ls hl => ?_)
  refine lv_aload_n hx hb (k := 2) (by decide +kernel) rfl (lv_at hl 4 rfl) ?_
  refine lw_callV (j := 77) (index := 58) (a0 := 40) (ci := 7) (av := []) (rest := []) hx hb hml hown hts (by decide) (by decide +kernel) (Nat.le_of_ble_eq_true rfl) (fun k h' q => q) (f_thrown (f := fun t h3 => t = h2.1 40 0 ∧ h3 = h2) rfl ⟨rfl, rfl⟩) (sx_in_mem (i := 877) (by decide +kernel)) (by decide +kernel) rfl (by decide +kernel) (sx_in_mem (i := 879) (by decide +kernel)) (show (parseMethodDescriptor (sx_y 77).desc).map (fun d => d.parameters.length) = some 0 by decide +kernel) (Nat.le_of_ble_eq_true rfl) (Nat.le_of_ble_eq_true rfl) hc1 hc2 hK rfl hLS hl.1 (Nat.le_of_ble_eq_true rfl) (by decide +kernel) (fun v h3 H3 locs3 hq hLS => ?_)
  obtain ⟨tt, rfl⟩ : ∃ z, v = some (.int z) := by
    cases v with
    | none => exact hq.elim
    | some w =>
      cases w with
      | int z => exact ⟨z, rfl⟩
      | _ => exact hq.elim
  refine W.eq (g2 := F0 m 668 ls [.int tt]) rfl ?_
  obtain ⟨q3, q4⟩ := hq
  rw [q4] at hLS
  refine lv_iload hx hb (i := 5) (by decide +kernel) (lv_at hl 1 rfl) ?_
  refine lv_icmp_eq (off := 5) (tgt := 675) hx hb (by decide +kernel) (by decide) (fun _ => ?_) (fun z => absurd (q3.trans q1) z)
  refine lv_iload hx hb (i := 5) (by decide +kernel) (lv_at hl 1 rfl) ?_
  refine lv_if_ne (off := 14) (tgt := 691) hx hb (by decide +kernel) (by decide) (fun _ => ?_) (fun z0 => ?_)
  · refine lv_goto (off := 59) (tgt := 750) hx hb (by decide +kernel) (by decide) ?_
    exact kk _ _ _ _ hLS inv2 (lv_sub hl [2, 3, 4, 5, 6] rfl)
  · have q5 := q2 z0
    refine lv_aload_n hx hb (k := 3) (by decide +kernel) rfl (lv_at hl 5 rfl) ?_
    refine lv_iconst (n := 0) (v := 0) hx hb (by decide +kernel) (by decide) ?_
    refine W.lald hx hb (sx_at_l (hLS.2.1 39) rfl) (sx_arrJ hK _ _) (fun q => by cases q) (sx_within (vp_in_nI (n := 0) (by decide) (by decide))) (sx_rd (vp_in_nI (n := 0) (by decide) (by decide))) rfl rfl dl_682 ?_
    refine W.eq (g2 := F0 m 683 ls [.long (h2.2.1 39 0)]) rfl ?_
    refine lv_lload hx hb (i := 6) (by decide +kernel) (lv_at hl 0 rfl) ?_
    refine W.lcmp hx hb (by decide +kernel) ?_
    rw [q5, lg_self]
    refine lv_if_eq (off := 5) (tgt := 691) hx hb (by decide +kernel) (by decide) (fun _ => ?_) (fun z => absurd rfl z)
    refine lv_goto (off := 59) (tgt := 750) hx hb (by decide +kernel) (by decide) ?_
    exact kk _ _ _ _ hLS inv2 (lv_sub hl [2, 3, 4, 5, 6] rfl)
set_option maxHeartbeats 4000000 in
set_option maxRecDepth 100000 in
theorem cs_look (C0 : LC p l e s m below meth c b L xs D cI cJ cZ r) (hLS : lwS s D cI cJ cZ r h H locs) (inv : INV h) {i : Nat} (hi : i + 4 ≤ L) {ls : Array Slot} (hl : lv_has ls 8 [(0, .ref b), (1, .ref (r 0)), (2, .ref (r 40)), (3, .ref (r 39)), (4, .int (nI i))]) (hc1 : cells + 1 ≤ 601024) (hc2 : slots + 6 ≤ 7293034)
    (kk : ∀ (h' : sx_H) (H1 : Heap) (locs1 : List Loc) (ls1 : Array Slot), lwS s D cI cJ cZ r h' H1 locs1 → INV h' → lv_has ls1 8 [(0, .ref b), (1, .ref (r 0)), (2, .ref (r 40)), (3, .ref (r 39)), (4, .int (nI i))] → W p l e room_1 s m #[Value.ref b] below meth c H1 locs1 (cells + 1) (slots + 6) (lw_Z below #[Value.ref b] s) (F0 m 750 ls1 [])) :
    W p l e room_1 s m #[Value.ref b] below meth c H locs cells slots (lw_Z below #[Value.ref b] s) (F0 m 694 ls []) := by
  obtain ⟨hA0, hL, hfl, hK, ht⟩ := C0
  obtain ⟨hx, hb, hr, hml, hown, hts', hX, hbl, hlocks, hgv⟩ := hA0
  have hts : ∀ w ∈ sx_tb, w.before _ s = true := fun w hw => hts' w (List.mem_filter.mp hw).1
  have hbA : ¬ lA s b := Nat.not_le.mpr hbl
  have v1 : vp_in (nI i + 1) L := by rw [nI_1]; exact vp_in_nI (by omega) (by omega)
  have v2 : vp_in (nI i + 2) L := by rw [show nI i + 2 = nI (i + 2) from nI_add i 2]; exact vp_in_nI (by omega) (by omega)
  have v3 : vp_in (nI i + 3) L := by rw [show nI i + 3 = nI (i + 3) from nI_add i 3]; exact vp_in_nI (by omega) (by omega)
  refine lv_aload_n hx hb (k := 1) (by decide +kernel) rfl (lv_at hl 1 rfl) ?_
  refine lv_aload_n hx hb (k := 0) (by decide +kernel) rfl (lv_at hl 0 rfl) ?_
  refine lv_iload hx hb (i := 4) (by decide +kernel) (lv_at hl 4 rfl) ?_
  refine lv_iconst (n := 1) (v := 1) hx hb (by decide +kernel) (by decide) ?_
  refine lv_iadd hx hb (by decide +kernel) ?_
  refine va_sld hx hb hX hbl hbA hLS.2.2.1 v1 (by decide +kernel) ?_
  refine lv_aload_n hx hb (k := 3) (by decide +kernel) rfl (lv_at hl 3 rfl) ?_
  refine lw_callS (index := 98) (as := [.ref 0, .int (xs (Int32.toNatClampNeg (nI i + 1))), .ref 39]) (rest := []) hx hb hown hts ht hK (h_look l hfl D cI cJ cZ r h H.size (Q := B1 121 [some (.ref 40), some (.int (xs (Int32.toNatClampNeg (nI i + 1))))]) (a_look inv (xs (Int32.toNatClampNeg (nI i + 1))))) wh_look (sx_in_mem (i := 744) (by decide +kernel)) (sx_in_mem (i := 745) (by decide +kernel)) wl_i ⟨by decide, by decide⟩ (show (parseMethodDescriptor yh_look.desc).map (fun d => d.parameters.length) = some 3 by decide +kernel) (Nat.le_of_ble_eq_true rfl) (Nat.le_of_ble_eq_true rfl) hc1 hc2 hLS (by rw [hml]; exact hl.1) (Nat.le_of_ble_eq_true rfl) (by decide +kernel) (fun v h1 H1 locs1 hq hLS => ?_)
  obtain ⟨k, rfl, HX⟩ := hq
  refine W.eq (g2 := F0 m 705 ls [.int k]) rfl ?_
  refine lv_istore (lv' := [(5, .int k), (0, .ref b), (1, .ref (r 0)), (2, .ref (r 40)), (3, .ref (r 39)), (4, .int (nI i))]) hx hb (i := 5) (by decide +kernel) hl (by decide) rfl (fun ls hl => ?_)
  refine lv_aload_n hx hb (k := 2) (by decide +kernel) rfl (lv_at hl 3 rfl) ?_
  refine lv_aload_n hx hb (k := 0) (by decide +kernel) rfl (lv_at hl 1 rfl) ?_
  refine lv_iload hx hb (i := 4) (by decide +kernel) (lv_at hl 5 rfl) ?_
  refine lv_iconst (n := 1) (v := 1) hx hb (by decide +kernel) (by decide) ?_
  refine lv_iadd hx hb (by decide +kernel) ?_
  refine va_sld hx hb hX hbl hbA hLS.2.2.1 v1 (by decide +kernel) ?_
  refine lw_callV (j := 121) (index := 100) (a0 := 40) (ci := 7) (av := [.int (xs (Int32.toNatClampNeg (nI i + 1)))]) (rest := []) hx hb hml hown hts (by decide) (by decide +kernel) (Nat.le_of_ble_eq_true rfl) (fun k h' q => q) (HX) (sx_in_mem (i := 1053) (by decide +kernel)) (by decide +kernel) rfl (by decide +kernel) (sx_in_mem (i := 1055) (by decide +kernel)) (show (parseMethodDescriptor (sx_y 121).desc).map (fun d => d.parameters.length) = some 1 by decide +kernel) (Nat.le_of_ble_eq_true rfl) (Nat.le_of_ble_eq_true rfl) hc1 hc2 hK rfl hLS hl.1 (Nat.le_of_ble_eq_true rfl) (by decide +kernel) (fun v h2 H2 locs2 hq hLS => ?_)
  obtain ⟨bb, rfl⟩ : ∃ z, v = some (.int z) := by
    cases v with
    | none => exact hq.elim
    | some w =>
      cases w with
      | int z => exact ⟨z, rfl⟩
      | _ => exact hq.elim
  refine W.eq (g2 := F0 m 717 ls [.int bb]) rfl ?_
  obtain ⟨q1, q2, inv2⟩ := hq
  refine lv_istore (lv' := [(6, .int bb), (5, .int k), (0, .ref b), (1, .ref (r 0)), (2, .ref (r 40)), (3, .ref (r 39)), (4, .int (nI i))]) hx hb (i := 6) (by decide +kernel) hl (by decide) rfl (fun ls hl => ?_)
  refine lv_aload_n hx hb (k := 2) (by decide +kernel) rfl (lv_at hl 4 rfl) ?_
  refine lw_callV (j := 77) (index := 58) (a0 := 40) (ci := 7) (av := []) (rest := []) hx hb hml hown hts (by decide) (by decide +kernel) (Nat.le_of_ble_eq_true rfl) (fun k h' q => q) (f_thrown (f := fun t h3 => t = h2.1 40 0 ∧ h3 = h2) rfl ⟨rfl, rfl⟩) (sx_in_mem (i := 877) (by decide +kernel)) (by decide +kernel) rfl (by decide +kernel) (sx_in_mem (i := 879) (by decide +kernel)) (show (parseMethodDescriptor (sx_y 77).desc).map (fun d => d.parameters.length) = some 0 by decide +kernel) (Nat.le_of_ble_eq_true rfl) (Nat.le_of_ble_eq_true rfl) hc1 hc2 hK rfl hLS hl.1 (Nat.le_of_ble_eq_true rfl) (by decide +kernel) (fun v h3 H3 locs3 hq hLS => ?_)
  obtain ⟨tt, rfl⟩ : ∃ z, v = some (.int z) := by
    cases v with
    | none => exact hq.elim
    | some w =>
      cases w with
      | int z => exact ⟨z, rfl⟩
      | _ => exact hq.elim
  refine W.eq (g2 := F0 m 723 ls [.int tt]) rfl ?_
  obtain ⟨q3, q4⟩ := hq
  rw [q4] at hLS
  refine lv_iload hx hb (i := 5) (by decide +kernel) (lv_at hl 1 rfl) ?_
  refine lv_icmp_eq (off := 5) (tgt := 730) hx hb (by decide +kernel) (by decide) (fun _ => ?_) (fun z => absurd (q3.trans q1) z)
  refine lv_iload hx hb (i := 5) (by decide +kernel) (lv_at hl 1 rfl) ?_
  refine lv_if_ne (off := 15) (tgt := 747) hx hb (by decide +kernel) (by decide) (fun _ => ?_) (fun z0 => ?_)
  · refine lv_goto (off := 3) (tgt := 750) hx hb (by decide +kernel) (by decide) ?_
    exact kk _ _ _ _ hLS inv2 (lv_sub hl [2, 3, 4, 5, 6] rfl)
  · have q5 := q2 z0
    refine lv_aload_n hx hb (k := 3) (by decide +kernel) rfl (lv_at hl 5 rfl) ?_
    refine lv_iconst (n := 0) (v := 0) hx hb (by decide +kernel) (by decide) ?_
    refine W.lald hx hb (sx_at_l (hLS.2.1 39) rfl) (sx_arrJ hK _ _) (fun q => by cases q) (sx_within (vp_in_nI (n := 0) (by decide) (by decide))) (sx_rd (vp_in_nI (n := 0) (by decide) (by decide))) rfl rfl dl_737 ?_
    refine W.eq (g2 := F0 m 738 ls [.long (h2.2.1 39 0)]) rfl ?_
    refine lv_iload hx hb (i := 6) (by decide +kernel) (lv_at hl 0 rfl) ?_
    refine lv_i2l (v := _) hx hb (by decide +kernel) rfl ?_
    refine W.lcmp hx hb (by decide +kernel) ?_
    rw [q5, lg_self]
    refine lv_if_eq (off := 5) (tgt := 747) hx hb (by decide +kernel) (by decide) (fun _ => ?_) (fun z => absurd rfl z)
    refine lv_goto (off := 3) (tgt := 750) hx hb (by decide +kernel) (by decide) ?_
    exact kk _ _ _ _ hLS inv2 (lv_sub hl [2, 3, 4, 5, 6] rfl)
set_option maxHeartbeats 4000000 in
set_option maxRecDepth 100000 in
theorem cs_load (C0 : LC p l e s m below meth c b L xs D cI cJ cZ r) (hLS : lwS s D cI cJ cZ r h H locs) (inv : INV h) {i : Nat} (hi : i + 4 ≤ L) {ls : Array Slot} (hl : lv_has ls 8 [(0, .ref b), (1, .ref (r 0)), (2, .ref (r 40)), (3, .ref (r 39)), (4, .int (nI i))]) (hc1 : cells + 1 ≤ 601024) (hc2 : slots + 6 ≤ 7293034)
    (kk : ∀ (h' : sx_H) (H1 : Heap) (locs1 : List Loc) (ls1 : Array Slot), lwS s D cI cJ cZ r h' H1 locs1 → INV h' → lv_has ls1 8 [(0, .ref b), (1, .ref (r 0)), (2, .ref (r 40)), (3, .ref (r 39)), (4, .int (nI i))] → W p l e room_1 s m #[Value.ref b] below meth c H1 locs1 (cells + 1) (slots + 6) (lw_Z below #[Value.ref b] s) (F0 m 750 ls1 [])) :
    W p l e room_1 s m #[Value.ref b] below meth c H locs cells slots (lw_Z below #[Value.ref b] s) (F0 m 200 ls []) := by
  obtain ⟨hA0, hL, hfl, hK, ht⟩ := C0
  obtain ⟨hx, hb, hr, hml, hown, hts', hX, hbl, hlocks, hgv⟩ := hA0
  have hts : ∀ w ∈ sx_tb, w.before _ s = true := fun w hw => hts' w (List.mem_filter.mp hw).1
  have hbA : ¬ lA s b := Nat.not_le.mpr hbl
  have v1 : vp_in (nI i + 1) L := by rw [nI_1]; exact vp_in_nI (by omega) (by omega)
  have v2 : vp_in (nI i + 2) L := by rw [show nI i + 2 = nI (i + 2) from nI_add i 2]; exact vp_in_nI (by omega) (by omega)
  have v3 : vp_in (nI i + 3) L := by rw [show nI i + 3 = nI (i + 3) from nI_add i 3]; exact vp_in_nI (by omega) (by omega)
  refine lv_aload_n hx hb (k := 1) (by decide +kernel) rfl (lv_at hl 1 rfl) ?_
  refine lw_callV (j := 62) (index := 62) (a0 := 0) (ci := 6) (av := []) (rest := []) hx hb hml hown hts (by decide) (by decide +kernel) (Nat.le_of_ble_eq_true rfl) (fun k h' q => q) (a_load inv) (sx_in_mem (i := 282) (by decide +kernel)) (by decide +kernel) rfl (by decide +kernel) (sx_in_mem (i := 284) (by decide +kernel)) (show (parseMethodDescriptor (sx_y 62).desc).map (fun d => d.parameters.length) = some 0 by decide +kernel) (Nat.le_of_ble_eq_true rfl) (Nat.le_of_ble_eq_true rfl) (Nat.le_of_succ_le hc1) (by show slots ≤ 7293034; omega) hK rfl hLS hl.1 (Nat.le_of_ble_eq_true rfl) (by decide +kernel) (fun v h1 H1 locs1 hq hLS => ?_)
  obtain ⟨aa, rfl⟩ : ∃ z, v = some (.int z) := by
    cases v with
    | none => exact hq.elim
    | some w =>
      cases w with
      | int z => exact ⟨z, rfl⟩
      | _ => exact hq.elim
  refine W.eq (g2 := F0 m 204 ls [.int aa]) rfl ?_
  refine lv_aload_n hx hb (k := 2) (by decide +kernel) rfl (lv_at hl 2 rfl) ?_
  refine lw_callV (j := 94) (index := 65) (a0 := 40) (ci := 7) (av := []) (rest := [.int aa]) hx hb hml hown hts (by decide) (by decide +kernel) (Nat.le_of_ble_eq_true rfl) (fun k h' q => q) (hq) (sx_in_mem (i := 881) (by decide +kernel)) (by decide +kernel) rfl (by decide +kernel) (sx_in_mem (i := 883) (by decide +kernel)) (show (parseMethodDescriptor (sx_y 94).desc).map (fun d => d.parameters.length) = some 0 by decide +kernel) (Nat.le_of_ble_eq_true rfl) (Nat.le_of_ble_eq_true rfl) (Nat.le_of_succ_le hc1) (by show slots ≤ 7293034; omega) hK rfl hLS hl.1 (Nat.le_of_ble_eq_true rfl) (by decide +kernel) (fun v h2 H2 locs2 hq hLS => ?_)
  obtain ⟨bb, rfl⟩ : ∃ z, v = some (.int z) := by
    cases v with
    | none => exact hq.elim
    | some w =>
      cases w with
      | int z => exact ⟨z, rfl⟩
      | _ => exact hq.elim
  refine W.eq (g2 := F0 m 208 ls [.int bb, .int aa]) rfl ?_
  obtain ⟨q1, inv2⟩ := hq
  refine lv_icmp_eq (off := 542) (tgt := 750) hx hb (by decide +kernel) (by decide) (fun _ => ?_) (fun z => absurd q1 z)
  refine W.widen (k := cells + 1) (n := slots + 6) (Nat.le_succ _) (Nat.le_add_right _ _) ?_
  exact kk _ _ _ _ hLS inv2 hl
set_option maxHeartbeats 4000000 in
set_option maxRecDepth 100000 in
theorem cs_folded (C0 : LC p l e s m below meth c b L xs D cI cJ cZ r) (hLS : lwS s D cI cJ cZ r h H locs) (inv : INV h) {i : Nat} (hi : i + 4 ≤ L) {ls : Array Slot} (hl : lv_has ls 8 [(0, .ref b), (1, .ref (r 0)), (2, .ref (r 40)), (3, .ref (r 39)), (4, .int (nI i))]) (hc1 : cells + 1 ≤ 601024) (hc2 : slots + 6 ≤ 7293034)
    (kk : ∀ (h' : sx_H) (H1 : Heap) (locs1 : List Loc) (ls1 : Array Slot), lwS s D cI cJ cZ r h' H1 locs1 → INV h' → lv_has ls1 8 [(0, .ref b), (1, .ref (r 0)), (2, .ref (r 40)), (3, .ref (r 39)), (4, .int (nI i))] → W p l e room_1 s m #[Value.ref b] below meth c H1 locs1 (cells + 1) (slots + 6) (lw_Z below #[Value.ref b] s) (F0 m 750 ls1 [])) :
    W p l e room_1 s m #[Value.ref b] below meth c H locs cells slots (lw_Z below #[Value.ref b] s) (F0 m 517 ls []) := by
  obtain ⟨hA0, hL, hfl, hK, ht⟩ := C0
  obtain ⟨hx, hb, hr, hml, hown, hts', hX, hbl, hlocks, hgv⟩ := hA0
  have hts : ∀ w ∈ sx_tb, w.before _ s = true := fun w hw => hts' w (List.mem_filter.mp hw).1
  have hbA : ¬ lA s b := Nat.not_le.mpr hbl
  have v1 : vp_in (nI i + 1) L := by rw [nI_1]; exact vp_in_nI (by omega) (by omega)
  have v2 : vp_in (nI i + 2) L := by rw [show nI i + 2 = nI (i + 2) from nI_add i 2]; exact vp_in_nI (by omega) (by omega)
  have v3 : vp_in (nI i + 3) L := by rw [show nI i + 3 = nI (i + 3) from nI_add i 3]; exact vp_in_nI (by omega) (by omega)
  refine lv_aload_n hx hb (k := 1) (by decide +kernel) rfl (lv_at hl 1 rfl) ?_
  refine lw_callV (j := 68) (index := 83) (a0 := 0) (ci := 6) (av := []) (rest := []) hx hb hml hown hts (by decide) (by decide +kernel) (Nat.le_of_ble_eq_true rfl) (fun k h' q => q) (a_folded inv) (sx_in_mem (i := 477) (by decide +kernel)) (by decide +kernel) rfl (by decide +kernel) (sx_in_mem (i := 479) (by decide +kernel)) (show (parseMethodDescriptor (sx_y 68).desc).map (fun d => d.parameters.length) = some 0 by decide +kernel) (Nat.le_of_ble_eq_true rfl) (Nat.le_of_ble_eq_true rfl) (Nat.le_of_succ_le hc1) (by show slots ≤ 7293034; omega) hK rfl hLS hl.1 (Nat.le_of_ble_eq_true rfl) (by decide +kernel) (fun v h1 H1 locs1 hq hLS => ?_)
  obtain ⟨aa, rfl⟩ : ∃ z, v = some (.int z) := by
    cases v with
    | none => exact hq.elim
    | some w =>
      cases w with
      | int z => exact ⟨z, rfl⟩
      | _ => exact hq.elim
  refine W.eq (g2 := F0 m 521 ls [.int aa]) rfl ?_
  refine lv_aload_n hx hb (k := 2) (by decide +kernel) rfl (lv_at hl 2 rfl) ?_
  refine lw_callV (j := 106) (index := 86) (a0 := 40) (ci := 7) (av := []) (rest := [.int aa]) hx hb hml hown hts (by decide) (by decide +kernel) (Nat.le_of_ble_eq_true rfl) (fun k h' q => q) (hq) (sx_in_mem (i := 944) (by decide +kernel)) (by decide +kernel) rfl (by decide +kernel) (sx_in_mem (i := 946) (by decide +kernel)) (show (parseMethodDescriptor (sx_y 106).desc).map (fun d => d.parameters.length) = some 0 by decide +kernel) (Nat.le_of_ble_eq_true rfl) (Nat.le_of_ble_eq_true rfl) (Nat.le_of_succ_le hc1) (by show slots ≤ 7293034; omega) hK rfl hLS hl.1 (Nat.le_of_ble_eq_true rfl) (by decide +kernel) (fun v h2 H2 locs2 hq hLS => ?_)
  obtain ⟨bb, rfl⟩ : ∃ z, v = some (.int z) := by
    cases v with
    | none => exact hq.elim
    | some w =>
      cases w with
      | int z => exact ⟨z, rfl⟩
      | _ => exact hq.elim
  refine W.eq (g2 := F0 m 525 ls [.int bb, .int aa]) rfl ?_
  obtain ⟨q1, inv2⟩ := hq
  refine lv_icmp_eq (off := 225) (tgt := 750) hx hb (by decide +kernel) (by decide) (fun _ => ?_) (fun z => absurd q1 z)
  refine W.widen (k := cells + 1) (n := slots + 6) (Nat.le_succ _) (Nat.le_add_right _ _) ?_
  exact kk _ _ _ _ hLS inv2 hl
set_option maxHeartbeats 4000000 in
set_option maxRecDepth 100000 in
theorem cs_write (C0 : LC p l e s m below meth c b L xs D cI cJ cZ r) (hLS : lwS s D cI cJ cZ r h H locs) (inv : INV h) {i : Nat} (hi : i + 4 ≤ L) {ls : Array Slot} (hl : lv_has ls 8 [(0, .ref b), (1, .ref (r 0)), (2, .ref (r 40)), (3, .ref (r 39)), (4, .int (nI i))]) (hc1 : cells + 1 ≤ 601024) (hc2 : slots + 6 ≤ 7293034)
    (kk : ∀ (h' : sx_H) (H1 : Heap) (locs1 : List Loc) (ls1 : Array Slot), lwS s D cI cJ cZ r h' H1 locs1 → INV h' → lv_has ls1 8 [(0, .ref b), (1, .ref (r 0)), (2, .ref (r 40)), (3, .ref (r 39)), (4, .int (nI i))] → W p l e room_1 s m #[Value.ref b] below meth c H1 locs1 (cells + 1) (slots + 6) (lw_Z below #[Value.ref b] s) (F0 m 750 ls1 [])) :
    W p l e room_1 s m #[Value.ref b] below meth c H locs cells slots (lw_Z below #[Value.ref b] s) (F0 m 598 ls []) := by
  obtain ⟨hA0, hL, hfl, hK, ht⟩ := C0
  obtain ⟨hx, hb, hr, hml, hown, hts', hX, hbl, hlocks, hgv⟩ := hA0
  have hts : ∀ w ∈ sx_tb, w.before _ s = true := fun w hw => hts' w (List.mem_filter.mp hw).1
  have hbA : ¬ lA s b := Nat.not_le.mpr hbl
  have v1 : vp_in (nI i + 1) L := by rw [nI_1]; exact vp_in_nI (by omega) (by omega)
  have v2 : vp_in (nI i + 2) L := by rw [show nI i + 2 = nI (i + 2) from nI_add i 2]; exact vp_in_nI (by omega) (by omega)
  have v3 : vp_in (nI i + 3) L := by rw [show nI i + 3 = nI (i + 3) from nI_add i 3]; exact vp_in_nI (by omega) (by omega)
  by_cases q0 : (xs (Int32.toNatClampNeg (nI i + 1))) = 0
  · have hb2 : (0 : Int32) = (if false = true then 1 else 0) := rfl
    refine lv_aload_n hx hb (k := 1) (by decide +kernel) rfl (lv_at hl 1 rfl) ?_
    refine lv_aload_n hx hb (k := 0) (by decide +kernel) rfl (lv_at hl 0 rfl) ?_
    refine lv_iload hx hb (i := 4) (by decide +kernel) (lv_at hl 4 rfl) ?_
    refine lv_iconst (n := 1) (v := 1) hx hb (by decide +kernel) (by decide) ?_
    refine lv_iadd hx hb (by decide +kernel) ?_
    refine va_sld hx hb hX hbl hbA hLS.2.2.1 v1 (by decide +kernel) ?_
    refine lv_if_eq (off := 7) (tgt := 612) hx hb (by decide +kernel) (by decide) (fun _ => ?_) (fun z => absurd q0 z)
    refine lv_iconst (n := 0) (v := 0) hx hb (by decide +kernel) (by decide) ?_
    refine lw_callV (j := 70) (index := 90) (a0 := 0) (ci := 6) (av := [.int 0]) (rest := []) hx hb hml hown hts (by decide) (by decide +kernel) (Nat.le_of_ble_eq_true rfl) (fun k h' q => q) (a_write inv false) (sx_in_mem (i := 506) (by decide +kernel)) (by decide +kernel) rfl (by decide +kernel) (sx_in_mem (i := 508) (by decide +kernel)) (show (parseMethodDescriptor (sx_y 70).desc).map (fun d => d.parameters.length) = some 1 by decide +kernel) (Nat.le_of_ble_eq_true rfl) (Nat.le_of_ble_eq_true rfl) (Nat.le_of_succ_le hc1) (by show slots ≤ 7293034; omega) hK rfl hLS hl.1 (Nat.le_of_ble_eq_true rfl) (by decide +kernel) (fun v h1 H1 locs1 hq hLS => ?_)
    obtain ⟨aa, rfl⟩ : ∃ z, v = some (.int z) := by
      cases v with
      | none => exact hq.elim
      | some w =>
        cases w with
        | int z => exact ⟨z, rfl⟩
        | _ => exact hq.elim
    refine W.eq (g2 := F0 m 616 ls [.int aa]) rfl ?_
    refine lv_aload_n hx hb (k := 2) (by decide +kernel) rfl (lv_at hl 2 rfl) ?_
    refine lv_aload_n hx hb (k := 0) (by decide +kernel) rfl (lv_at hl 0 rfl) ?_
    refine lv_iload hx hb (i := 4) (by decide +kernel) (lv_at hl 4 rfl) ?_
    refine lv_iconst (n := 1) (v := 1) hx hb (by decide +kernel) (by decide) ?_
    refine lv_iadd hx hb (by decide +kernel) ?_
    refine va_sld hx hb hX hbl hbA hLS.2.2.1 v1 (by decide +kernel) ?_
    refine lv_if_eq (off := 7) (tgt := 630) hx hb (by decide +kernel) (by decide) (fun _ => ?_) (fun z => absurd q0 z)
    refine lv_iconst (n := 0) (v := 0) hx hb (by decide +kernel) (by decide) ?_
    refine lw_callV (j := 118) (index := 94) (a0 := 40) (ci := 7) (av := [.int 0]) (rest := [.int aa]) hx hb hml hown hts (by decide) (by decide +kernel) (Nat.le_of_ble_eq_true rfl) (fun k h' q => q) (hq) (sx_in_mem (i := 1021) (by decide +kernel)) (by decide +kernel) rfl (by decide +kernel) (sx_in_mem (i := 1023) (by decide +kernel)) (show (parseMethodDescriptor (sx_y 118).desc).map (fun d => d.parameters.length) = some 1 by decide +kernel) (Nat.le_of_ble_eq_true rfl) (Nat.le_of_ble_eq_true rfl) (Nat.le_of_succ_le hc1) (by show slots ≤ 7293034; omega) hK rfl hLS hl.1 (Nat.le_of_ble_eq_true rfl) (by decide +kernel) (fun v h2 H2 locs2 hq hLS => ?_)
    obtain ⟨bb, rfl⟩ : ∃ z, v = some (.int z) := by
      cases v with
      | none => exact hq.elim
      | some w =>
        cases w with
        | int z => exact ⟨z, rfl⟩
        | _ => exact hq.elim
    refine W.eq (g2 := F0 m 634 ls [.int bb, .int aa]) rfl ?_
    obtain ⟨q1, inv2⟩ := hq
    refine lv_icmp_eq (off := 116) (tgt := 750) hx hb (by decide +kernel) (by decide) (fun _ => ?_) (fun z => absurd q1 z)
    refine W.widen (k := cells + 1) (n := slots + 6) (Nat.le_succ _) (Nat.le_add_right _ _) ?_
    exact kk _ _ _ _ hLS inv2 hl
  · have hb2 : (1 : Int32) = (if true = true then 1 else 0) := rfl
    refine lv_aload_n hx hb (k := 1) (by decide +kernel) rfl (lv_at hl 1 rfl) ?_
    refine lv_aload_n hx hb (k := 0) (by decide +kernel) rfl (lv_at hl 0 rfl) ?_
    refine lv_iload hx hb (i := 4) (by decide +kernel) (lv_at hl 4 rfl) ?_
    refine lv_iconst (n := 1) (v := 1) hx hb (by decide +kernel) (by decide) ?_
    refine lv_iadd hx hb (by decide +kernel) ?_
    refine va_sld hx hb hX hbl hbA hLS.2.2.1 v1 (by decide +kernel) ?_
    refine lv_if_eq (off := 7) (tgt := 612) hx hb (by decide +kernel) (by decide) (fun z => absurd z q0) (fun _ => ?_)
    refine lv_iconst (n := 1) (v := 1) hx hb (by decide +kernel) (by decide) ?_
    refine lv_goto (off := 4) (tgt := 613) hx hb (by decide +kernel) (by decide) ?_
    refine lw_callV (j := 70) (index := 90) (a0 := 0) (ci := 6) (av := [.int 1]) (rest := []) hx hb hml hown hts (by decide) (by decide +kernel) (Nat.le_of_ble_eq_true rfl) (fun k h' q => q) (a_write inv true) (sx_in_mem (i := 506) (by decide +kernel)) (by decide +kernel) rfl (by decide +kernel) (sx_in_mem (i := 508) (by decide +kernel)) (show (parseMethodDescriptor (sx_y 70).desc).map (fun d => d.parameters.length) = some 1 by decide +kernel) (Nat.le_of_ble_eq_true rfl) (Nat.le_of_ble_eq_true rfl) (Nat.le_of_succ_le hc1) (by show slots ≤ 7293034; omega) hK rfl hLS hl.1 (Nat.le_of_ble_eq_true rfl) (by decide +kernel) (fun v h1 H1 locs1 hq hLS => ?_)
    obtain ⟨aa, rfl⟩ : ∃ z, v = some (.int z) := by
      cases v with
      | none => exact hq.elim
      | some w =>
        cases w with
        | int z => exact ⟨z, rfl⟩
        | _ => exact hq.elim
    refine W.eq (g2 := F0 m 616 ls [.int aa]) rfl ?_
    refine lv_aload_n hx hb (k := 2) (by decide +kernel) rfl (lv_at hl 2 rfl) ?_
    refine lv_aload_n hx hb (k := 0) (by decide +kernel) rfl (lv_at hl 0 rfl) ?_
    refine lv_iload hx hb (i := 4) (by decide +kernel) (lv_at hl 4 rfl) ?_
    refine lv_iconst (n := 1) (v := 1) hx hb (by decide +kernel) (by decide) ?_
    refine lv_iadd hx hb (by decide +kernel) ?_
    refine va_sld hx hb hX hbl hbA hLS.2.2.1 v1 (by decide +kernel) ?_
    refine lv_if_eq (off := 7) (tgt := 630) hx hb (by decide +kernel) (by decide) (fun z => absurd z q0) (fun _ => ?_)
    refine lv_iconst (n := 1) (v := 1) hx hb (by decide +kernel) (by decide) ?_
    refine lv_goto (off := 4) (tgt := 631) hx hb (by decide +kernel) (by decide) ?_
    refine lw_callV (j := 118) (index := 94) (a0 := 40) (ci := 7) (av := [.int 1]) (rest := [.int aa]) hx hb hml hown hts (by decide) (by decide +kernel) (Nat.le_of_ble_eq_true rfl) (fun k h' q => q) (hq) (sx_in_mem (i := 1021) (by decide +kernel)) (by decide +kernel) rfl (by decide +kernel) (sx_in_mem (i := 1023) (by decide +kernel)) (show (parseMethodDescriptor (sx_y 118).desc).map (fun d => d.parameters.length) = some 1 by decide +kernel) (Nat.le_of_ble_eq_true rfl) (Nat.le_of_ble_eq_true rfl) (Nat.le_of_succ_le hc1) (by show slots ≤ 7293034; omega) hK rfl hLS hl.1 (Nat.le_of_ble_eq_true rfl) (by decide +kernel) (fun v h2 H2 locs2 hq hLS => ?_)
    obtain ⟨bb, rfl⟩ : ∃ z, v = some (.int z) := by
      cases v with
      | none => exact hq.elim
      | some w =>
        cases w with
        | int z => exact ⟨z, rfl⟩
        | _ => exact hq.elim
    refine W.eq (g2 := F0 m 634 ls [.int bb, .int aa]) rfl ?_
    obtain ⟨q1, inv2⟩ := hq
    refine lv_icmp_eq (off := 116) (tgt := 750) hx hb (by decide +kernel) (by decide) (fun _ => ?_) (fun z => absurd q1 z)
    refine W.widen (k := cells + 1) (n := slots + 6) (Nat.le_succ _) (Nat.le_add_right _ _) ?_
    exact kk _ _ _ _ hLS inv2 hl
end LWC
