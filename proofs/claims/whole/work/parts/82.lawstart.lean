-- THE LAW, from its entry
section LWS
theorem st_own : ∀ k, k < 3 → ∀ w ∈ sx_oa k, w ∈ lw_tbl ∨ w ∈ flatC (Jvm.Cond.and given_1 narrow_1) := by
  have h : (List.range 3).all (fun k => (sx_oa k).all (fun w => decide (w ∈ lw_tbl) || decide (w ∈ flatC (Jvm.Cond.and given_1 narrow_1)))) = true := by decide +kernel
  intro k hk w hw
  have h1 := List.all_eq_true.mp (List.all_eq_true.mp h k (List.mem_range.mpr hk)) w hw
  rw [Bool.or_eq_true, decide_eq_true_eq, decide_eq_true_eq] at h1
  exact h1
theorem st_str : ∀ q ∈ sx_strs, Cond.stringRef "GateText" q.1 q.2 ∈ lw_tbl ∧ Cond.exactly (.string "GateText" q.1) "java/lang/String" ∈ flatC (Jvm.Cond.and given_1 narrow_1) := by decide +kernel
theorem st_nc : Cond.not nc ∈ flatC (Jvm.Cond.and given_1 narrow_1) := by decide +kernel
theorem st_nest : ∀ w ∈ sx_nest, w ∈ lw_tbl ∧ w.onTables = true := by decide +kernel
theorem st_cnest : ∀ w ∈ ct_nest, w ∈ lw_tbl ∧ w.onTables = true := by decide +kernel
theorem st_tU {s : State} {A : Array Value} (hts : ∀ w ∈ lw_tbl, w.before A s = true) (hgv : (Jvm.Cond.and given_1 narrow_1).before A s = true) : tU s := by
  have hf := flat_of_before _ hgv
  have h1 : sx_tfx A s := by
    refine ⟨fun k hk w hw => ?_, fun q hq => ?_⟩
    · rcases st_own k hk w hw with z | z
      · exact hts w z
      · exact hf w z
    · obtain ⟨a1, a2⟩ := st_str q hq
      obtain ⟨a, c, cA, kA, q1, -⟩ := Cond.exactly_spec (hf _ a2)
      exact ⟨a, vk_R.of (hts _ a1) q1⟩
  refine ⟨tf_move (State.WarmedH.refl s) (fun _ _ => rfl) h1, ?_⟩
  have h2 := hf _ st_nc
  have h2 : ((Cond.not nc).value A s none s [] == some true) = true := h2
  cases hh : nc.before #[] s with
  | false => rfl
  | true =>
    have h4 : (nc.value A s none s [] == some true) = true := hh
    have h5 : nc.value A s none s [] = some true := eq_of_beq h4
    have h6 : (Cond.not nc).value A s none s [] = (nc.value A s none s []).map (fun b => !b) := by simp only [Cond.value]
    rw [h6, h5] at h2
    cases h2
theorem st_cls {s : State} {A : Array Value} (hts : ∀ w ∈ sx_tb, w.before A s = true) : ∀ ci : Nat, ∃ (cC : ClassId) (iS : Nat → Nat), ∀ q : vw_C, vwCl[ci]? = some q → u_Kn s q.1 q.2.1 q.2.2 cC iS := by
  intro ci
  have go : ∀ q : vw_C, vwCl[ci]? = some q → Cond.instantiable q.1 q.2.2 ∈ sx_tb → ∃ (cC : ClassId) (iS : Nat → Nat), ∀ q' : vw_C, vwCl[ci]? = some q' → u_Kn s q'.1 q'.2.1 q'.2.2 cC iS := fun q hq hi => by
    obtain ⟨ty, hin, -, -, -⟩ := sx_cls hq
    obtain ⟨cC, iS, h⟩ := u_known hts hin (hts _ hi)
    refine ⟨cC, iS, fun q' hq' => ?_⟩
    rw [hq] at hq'
    cases hq'
    exact h
  match ci with
  | 0 => exact go _ rfl (sx_in_mem (i := 93) (by decide +kernel))
  | 1 => exact go _ rfl (sx_in_mem (i := 189) (by decide +kernel))
  | 2 => exact go _ rfl (sx_in_mem (i := 87) (by decide +kernel))
  | 3 => exact go _ rfl (sx_in_mem (i := 138) (by decide +kernel))
  | 4 => exact go _ rfl (sx_in_mem (i := 160) (by decide +kernel))
  | 5 => exact go _ rfl (sx_in_mem (i := 176) (by decide +kernel))
  | 6 => exact go _ rfl (sx_in_mem (i := 79) (by decide +kernel))
  | 7 => exact go _ rfl (sx_in_mem (i := 753) (by decide +kernel))
  | n + 8 => exact ⟨0, fun _ => 0, fun q hq => by simp [vwCl] at hq⟩
theorem st_arr {s : State} {A : Array Value} {ty : FieldType} (h : (Cond.arrayClass ty).before A s = true) : ∃ cA, s.vm.findClass ("[" ++ ty.toString) = some cA ∧ ArrOfT s cA ty := by
  obtain ⟨c, k, comp, h1, h2, h3⟩ := Cond.arrayClass_spec h
  exact ⟨c, h1, fun n z => ⟨fun k h => (by cases h), k, h2, comp, h3⟩⟩
theorem st_K {s : State} {A : Array Value} (hts' : ∀ w ∈ lw_tbl, w.before A s = true) : ∃ (D : va_G) (cI cJ cZ : ClassId), cK D cI cJ cZ s := by
  have hts : ∀ w ∈ sx_tb, w.before A s = true := fun w hw => hts' w (List.mem_filter.mp hw).1
  have hc := st_cls hts
  obtain ⟨cI, i1, i2⟩ := st_arr (hts _ wa_int)
  obtain ⟨cJ, j1, j2⟩ := st_arr (hts _ wa_long)
  obtain ⟨cZ, z1, z2⟩ := st_arr (hts _ wa_boolean)
  refine ⟨(fun ci => Classical.choose (hc ci), fun ci => Classical.choose (Classical.choose_spec (hc ci))), cI, cJ, cZ, ⟨⟨fun ci q hq => Classical.choose_spec (Classical.choose_spec (hc ci)) q hq, fun k q hk => ?_⟩, fun w hw => va_Nw.of (st_nest w hw).2 (hts' w (st_nest w hw).1)⟩, fun w hw => va_Nw.of (st_cnest w hw).2 (hts' w (st_cnest w hw).1)⟩
  match k, hk with
  | 0, hk => cases hk; exact ⟨i2, i1⟩
  | 1, hk => cases hk; exact ⟨j2, j1⟩
  | 2, hk => cases hk; exact ⟨z2, z1⟩
  | k + 3, hk => simp at hk
theorem rr_inj {z N : Nat} (hN : z + 65 ≤ N) : sx_inj (rr z) sx_w N := by
  have lt : ∀ a, (sx_w.1 a).1 ≠ 0 → a < 65 := fun a ha => Nat.not_le.mp (fun q => ha (shp_hi q))
  refine ⟨fun a b ha hb he => ?_, fun a ha => ?_⟩
  · have h1 := lt a ha
    have h2 := lt b hb
    unfold rr at he
    (repeat' split at he) <;> omega
  · have h1 := lt a ha
    unfold rr
    (repeat' split) <;> omega
set_option maxHeartbeats 4000000 in
set_option maxRecDepth 100000 in
theorem whole_start {p : Program} {e : Env} {s : State} {m : MethodId} {below : List Frame} {meth : Method} {c : Code} (l : Launch) (hfl : l.flags = flags0) {b L : Nat} {xs : Nat → Int32} (hL : L ≤ 2048) (C0 : lw_At p s m meth c b L xs) : W p l e room_1 s m #[Value.ref b] below meth c s.heap [] 0 0 (lw_Z below #[Value.ref b] s) (entryFrame m ([Value.ref b] : List Value).toArray 8) := by
  obtain ⟨hx, hb, hr, hml, hown, hts', hX, hbl, hlocks, hgv⟩ := id C0
  have hts : ∀ w ∈ sx_tb, w.before _ s = true := fun w hw => hts' w (List.mem_filter.mp hw).1
  obtain ⟨D, cI, cJ, cZ, hK⟩ := st_K hts'
  have ht := st_tU hts' hgv
  have hcJ : s.vm.findClass ("[" ++ (newarray.typeOf .long).toString) = some cJ := (hK.1.1.2 1 _ rfl).2
  have hS : va_S (lA s) s.heap s.heap [] := va_S.rf
  have hcs : lB s s.heap [] := ⟨rfl, fun i P hi => (by cases hi)⟩
  have hl := lv_entry ([.ref b]) (n := 8) (Nat.le_of_ble_eq_true rfl)
  rw [lg_entry_eq]
  generalize (lg_sl ([.ref b]) ++ List.replicate (8 - (lg_sl ([.ref b])).length) Slot.unset).toArray = ls at hl ⊢
  have hl : lv_has ls 8 [(0, .ref b)] := hl
  refine lw_new (index := 8) (C := RK6) (T := TK6) (N := 6) (V0 := fun k => defaultValue (tyK6 k)) hx hb hown hts hK.1 (ci' := 6) rfl (sx_in_mem (i := 78) (by decide +kernel)) (sx_in_mem (i := 79) (by decide +kernel)) wi6.1 tyK6 tyK6_ok (fun k _ => rfl) (Nat.le_of_ble_eq_true rfl) (Nat.le_of_ble_eq_true rfl) hcs hS (by decide +kernel) (fun H hcs hS => ?_)
  refine lv_dup hx hb (by decide +kernel) rfl ?_
  refine lw_init (cs := []) (rest := [.ref (s.heap.size + 0)]) (y := yk6) (own := "GateTextLaw") (index := 46) hx hb hml hown hts hK (k_6 l D cI cJ cZ _ _) wk6 wi6.1 (sx_in_mem (i := 80) (by decide +kernel)) wi6.2 rfl rfl rfl (by decide +kernel) ⟨Nat.le_of_ble_eq_true rfl, Nat.le_of_ble_eq_true rfl⟩ hl.1 (Nat.le_of_ble_eq_true rfl) ⟨Nat.le_of_ble_eq_true rfl, Nat.le_of_ble_eq_true rfl⟩ hcs hS (by decide +kernel) (fun H locs hcs hS => ?_)
  refine lv_astore_n (lv' := [(1, .ref (s.heap.size + 0)), (0, .ref b)]) hx hb (k := 1) (by decide +kernel) rfl hl (by decide) rfl (fun ls hl => ?_)
  refine lw_new (index := 47) (C := RK7) (T := TK7) (N := 39) (V0 := fun k => defaultValue (tyK7 k)) hx hb hown hts hK.1 (ci' := 7) rfl (sx_in_mem (i := 752) (by decide +kernel)) (sx_in_mem (i := 753) (by decide +kernel)) wi7.1 tyK7 tyK7_ok (fun k _ => rfl) (Nat.le_of_ble_eq_true rfl) (Nat.le_of_ble_eq_true rfl) hcs hS (by decide +kernel) (fun H hcs hS => ?_)
  refine W.eq (g2 := F0 m 11 ls [.ref (s.heap.size + 39)]) rfl ?_
  refine lv_dup hx hb (by decide +kernel) rfl ?_
  refine lw_init (rest := [.ref (s.heap.size + 39)]) (y := yk7) (own := "GateTextLaw") (index := 49) hx hb hml hown hts hK (k_7 l D cI cJ cZ _ _) wk7 wi7.1 (sx_in_mem (i := 754) (by decide +kernel)) wi7.2 rfl rfl rfl (by decide +kernel) ⟨Nat.le_of_ble_eq_true rfl, Nat.le_of_ble_eq_true rfl⟩ hl.1 (Nat.le_of_ble_eq_true rfl) ⟨Nat.le_of_ble_eq_true rfl, Nat.le_of_ble_eq_true rfl⟩ hcs hS (by decide +kernel) (fun H locs hcs hS => ?_)
  refine lv_astore_n (lv' := [(2, .ref (s.heap.size + 39)), (1, .ref (s.heap.size + 0)), (0, .ref b)]) hx hb (k := 2) (by decide +kernel) rfl hl (by decide) rfl (fun ls hl => ?_)
  refine lv_iconst (n := 1) (v := 1) hx hb (by decide +kernel) (by decide) ?_
  refine lw_newa (atype := .long) (N := 1) hx hb hts wa_long hcJ (by decide) (by decide) (by decide) (Nat.le_of_ble_eq_true rfl) (Nat.le_of_ble_eq_true rfl) hcs hS (by decide +kernel) (fun H hcs hS => ?_)
  have hcs : lB s H (L65 D cI cJ cZ s.heap.size) := hcs
  refine W.eq (g2 := F0 m 19 ls [.ref (s.heap.size + 64)]) rfl ?_
  refine lv_astore_n (lv' := [(3, .ref (s.heap.size + 64)), (2, .ref (s.heap.size + 39)), (1, .ref (s.heap.size + 0)), (0, .ref b)]) hx hb (k := 3) (by decide +kernel) rfl hl (by decide) rfl (fun ls hl => ?_)
  refine lv_iconst (n := 0) (v := 0) hx hb (by decide +kernel) (by decide) ?_
  refine lv_istore (lv' := [(4, .int 0), (3, .ref (s.heap.size + 64)), (2, .ref (s.heap.size + 39)), (1, .ref (s.heap.size + 0)), (0, .ref b)]) hx hb (i := 4) (by decide +kernel) hl (by decide) rfl (fun ls hl => ?_)
  refine law_loop (r := rr s.heap.size) ⟨C0, hL, hfl, hK.1, ht⟩ L 0 _ _ i0 H locs ls (by omega) (Nat.zero_le _) (by show 65 + L ≤ 601024; omega) (by show 36028 + 6 * L ≤ 7293034; omega) ⟨rr_inj (by rw [hcs.1]; exact Nat.le_refl _), w65 hcs.2, hS, fun a _ => Nat.le_add_right _ _⟩ INV0 (lv_sub hl [4, 3, 2, 1, 0] rfl)
end LWS
