theorem sx_all {n : Nat} {f : Nat → Bool} (h : (List.range n).all f = true) {j : Nat} (hj : j < n) : f j = true := List.all_eq_true.mp h j (List.mem_range.mpr hj)
theorem sx_code_lt {j pc : Nat} {e : Instr × Nat} (h : sx_code j pc = some e) : j < sx_nM := by
  rcases Nat.lt_or_ge j sx_nM with q | q
  · exact q
  · exfalso
    unfold sx_code at h
    have : sx_codeT.getD j (fun _ => none) = fun _ => none := by
      rw [List.getD_eq_getElem?_getD, List.getElem?_eq_none (show sx_codeT.length ≤ j from q)]; rfl
    rw [this] at h
    cases h
theorem sx_dec {j pc : Nat} {ins : Instr} {len : Nat} (h : sx_code j pc = some (ins, len)) : decode (sx_b j) pc = .ok (ins, sx_len ins len) := by
  have hj := sx_code_lt h
  have h1 := sx_dk j hj
  unfold sx_dck at h1
  have hp : pc < sx_N j := by
    rcases Nat.lt_or_ge pc (sx_N j) with q | q
    · exact q
    · rw [sx_nk j hj pc q] at h; cases h
  have h2 := sx_all h1 hp
  rw [h] at h2
  exact of_decide_eq_true h2
theorem sx_getD_mem {α β : Type} {L : List (List (Nat × α))} {j i : Nat} {v : α} (h : sx_fnd (L.getD j []) i = some v) : (i, v) ∈ L.getD j [] := sx_fnd_mem h
theorem sx_lt_of {α : Type} {L : List (List (Nat × α))} {j i n : Nat} {v : α} (hn : L.length = n) (h : sx_fnd (L.getD j []) i = some v) : j < n := by
  rcases Nat.lt_or_ge j n with q | q
  · exact q
  · exfalso
    rw [List.getD_eq_getElem?_getD, List.getElem?_eq_none (by omega)] at h
    cases h
theorem sx_fldf {j i ci k ps : Nat} (h : sx_fld j i = some (ci, k, ps)) : ∃ q : vw_C, vwCl[ci]? = some q ∧ k < q.2.2 ∧ (q.2.1 k).1 = q.1 ∧ Cond.fieldLink (sx_own j) i q.1 (q.2.1 k).2.1 (q.2.1 k).2.2.1 ∈ sx_tb := by
  have hj : j < sx_nM := sx_lt_of rfl h
  have h1 := List.all_eq_true.mp (sx_all sx_fld_ok hj) _ (sx_fnd_mem h)
  dsimp only at h1
  split at h1
  · rename_i q hq
    rw [Bool.and_eq_true, Bool.and_eq_true, decide_eq_true_eq] at h1
    exact ⟨q, hq, Nat.le_of_ble_eq_true h1.1, h1.2.1, sx_in_mem h1.2.2⟩
  · cases h1
def sx_tf (t : FieldType) (n : Nat) (fin : Bool) : Bool := match t, n with
  | .int, 0 => !fin
  | .long, 1 => !fin
  | .object _, 2 => !fin
  | .object _, _ + 3 => true
  | .array _, _ + 3 => true
  | _, _ => false
theorem sx_cls {ci : Nat} {q : vw_C} (h : vwCl[ci]? = some q) : ∃ ty : Nat → FieldType, (∀ w ∈ u_ws q.1 q.2.1 q.2.2, w ∈ sx_tb) ∧ (∀ k, k < q.2.2 → parseFieldDescriptor (q.2.1 k).2.2.1 = some (ty k)) ∧
    (∀ a, a < q.2.2 → ∀ b, b < q.2.2 → a ≠ b → (q.2.1 a).2.1 ≠ (q.2.1 b).2.1) ∧ ∀ k, k < q.2.2 → sx_tf (ty k) (sx_ft ci k) (q.2.1 k).2.2.2 = true := by
  have hc : ci < 8 := (List.getElem?_eq_some_iff.mp h).1
  have h1 := sx_all sx_cls_ok hc
  unfold sx_uck at h1
  rw [h] at h1
  split at h1
  · rename_i q' ty e1 e2
    cases e1
    have h2 : ∀ k, k < q.2.2 → _ := fun k hk => sx_all h1 hk
    refine ⟨ty, fun w hw => ?_, fun k hk => ?_, fun a ha b hb hne => ?_, fun k hk => ?_⟩
    · obtain ⟨k, hk, rfl⟩ := List.mem_map.mp hw
      have h3 := h2 k (List.mem_range.mp hk)
      rw [Bool.and_eq_true] at h3
      exact sx_in_mem h3.1
    · have h3 := h2 k hk
      rw [Bool.and_eq_true, Bool.and_eq_true] at h3
      exact of_decide_eq_true h3.2.1
    · have h3 := h2 a ha
      rw [Bool.and_eq_true, Bool.and_eq_true, Bool.and_eq_true] at h3
      have h4 := sx_all h3.2.2.1 hb
      rw [Bool.or_eq_true] at h4
      rcases h4 with h4 | h4
      · exact absurd (Nat.eq_of_beq_eq_true h4) hne
      · exact of_decide_eq_true h4
    · have h3 := h2 k hk
      rw [Bool.and_eq_true, Bool.and_eq_true, Bool.and_eq_true] at h3
      have h4 := h3.2.2.2
      unfold sx_tf
      generalize ty k = t at h4 ⊢
      generalize sx_ft ci k = z at h4 ⊢
      split at h4 <;> first | exact h4 | cases h4 | rfl
  · cases h1
theorem sx_at_ob {D : va_G} {cI cJ cZ : ClassId} {r : Nat → Nat} {sh : sx_S} {h : sx_H} {H : Heap} {a ci : Nat} (x : sx_at D cI cJ cZ r sh h H a) (e : (sh.1 a).1 = ci + 4) : ∃ q : vw_C, vwCl[ci]? = some q ∧ t_OB (r a) (D.1 ci) q.2.2 (D.2 ci) H (fun k => sx_v r (sx_fv h a ci k)) := by
  unfold sx_at at x; rw [e] at x; exact x
theorem sx_at_i {D : va_G} {cI cJ cZ : ClassId} {r : Nat → Nat} {sh : sx_S} {h : sx_H} {H : Heap} {a : Nat} (x : sx_at D cI cJ cZ r sh h H a) (e : (sh.1 a).1 = 1) : H[r a]? = some (arrV cI (sh.1 a).2 (fun k => .int (h.1 a k))) := by
  unfold sx_at at x; rw [e] at x; exact x
theorem sx_at_l {D : va_G} {cI cJ cZ : ClassId} {r : Nat → Nat} {sh : sx_S} {h : sx_H} {H : Heap} {a : Nat} (x : sx_at D cI cJ cZ r sh h H a) (e : (sh.1 a).1 = 2) : H[r a]? = some (arrV cJ (sh.1 a).2 (fun k => .long (h.2.1 a k))) := by
  unfold sx_at at x; rw [e] at x; exact x
theorem sx_at_z {D : va_G} {cI cJ cZ : ClassId} {r : Nat → Nat} {sh : sx_S} {h : sx_H} {H : Heap} {a : Nat} (x : sx_at D cI cJ cZ r sh h H a) (e : (sh.1 a).1 = 3) : H[r a]? = some (arrV cZ (sh.1 a).2 (fun k => .int (h.1 a k))) := by
  unfold sx_at at x; rw [e] at x; exact x
theorem sx_at_obI {D : va_G} {cI cJ cZ : ClassId} {r : Nat → Nat} {sh : sx_S} {h : sx_H} {H : Heap} {a ci : Nat} {q : vw_C} (e : (sh.1 a).1 = ci + 4) (hq : vwCl[ci]? = some q) (x : t_OB (r a) (D.1 ci) q.2.2 (D.2 ci) H (fun k => sx_v r (sx_fv h a ci k))) : sx_at D cI cJ cZ r sh h H a := by
  unfold sx_at; rw [e]; exact ⟨q, hq, x⟩
theorem sx_at_iI {D : va_G} {cI cJ cZ : ClassId} {r : Nat → Nat} {sh : sx_S} {h : sx_H} {H : Heap} {a : Nat} (e : (sh.1 a).1 = 1) (x : H[r a]? = some (arrV cI (sh.1 a).2 (fun k => .int (h.1 a k)))) : sx_at D cI cJ cZ r sh h H a := by
  unfold sx_at; rw [e]; exact x
theorem sx_at_lI {D : va_G} {cI cJ cZ : ClassId} {r : Nat → Nat} {sh : sx_S} {h : sx_H} {H : Heap} {a : Nat} (e : (sh.1 a).1 = 2) (x : H[r a]? = some (arrV cJ (sh.1 a).2 (fun k => .long (h.2.1 a k)))) : sx_at D cI cJ cZ r sh h H a := by
  unfold sx_at; rw [e]; exact x
theorem sx_at_zI {D : va_G} {cI cJ cZ : ClassId} {r : Nat → Nat} {sh : sx_S} {h : sx_H} {H : Heap} {a : Nat} (e : (sh.1 a).1 = 3) (x : H[r a]? = some (arrV cZ (sh.1 a).2 (fun k => .int (h.1 a k)))) : sx_at D cI cJ cZ r sh h H a := by
  unfold sx_at; rw [e]; exact x
section SXW
variable {p : Program} {l : Launch} {e : Env} {R : Room} {s : State} {m : MethodId} {args : Array Value} {below : List Frame} {meth : Method} {c : Code} {H : Heap} {locs : List Loc} {cells slots : Nat} {Q : State → Prop}
variable {D : va_G} {cI cJ cZ : ClassId} {r : Nat → Nat} {sh : sx_S} {h : sx_H} {j pc : Nat} {ls : Array Slot} {rest : List Value}
theorem sx_getW (hctx : sx_ctx j p s m args meth c) (hK : sx_K D cI cJ cZ s) (hP : sx_P D cI cJ cZ r sh h H) {i ci k ps a : Nat} (hf : sx_fld j i = some (ci, k, ps)) (ha : (sh.1 a).1 = ci + 4) (hdg : decode (sx_b j) pc = .ok (.getfield i, 3))
    (kk : W p l e R s m args below meth c H locs cells slots Q (F0 m (pc + 3) ls (sx_v r (sx_fv h a ci k) :: rest))) : W p l e R s m args below meth c H locs cells slots Q (F0 m pc ls (.ref (r a) :: rest)) := by
  obtain ⟨hx, hb, hr, hml, hown, hts, hlk⟩ := hctx
  obtain ⟨q, hq, hk, hs1, hlink⟩ := sx_fldf hf
  obtain ⟨ty, hin, hty, hnm, htf⟩ := sx_cls hq
  obtain ⟨q', hq', cell, q1, q2, q3, q4⟩ := sx_at_ob (hP a) ha
  cases Option.some.inj (hq.symm.trans hq')
  obtain ⟨hS, hfc, kC, hkC, hkind⟩ := hK.1.1 ci _ hq
  obtain ⟨cf, kf, fi, f, hi, hsl⟩ := hS k hk
  have hi' := hi
  rw [hs1] at hi'
  refine W.getf hx hb hown (hts _ hlink) hi' (u_facts hfc hkC (u_lays hts hin hk) hi).1 q1 (by rw [q3]; exact fun h => by cases h) (v := sx_v r (sx_fv h a ci k)) ?_ rfl rfl hdg kk
  rw [hsl, q4 k hk]
theorem sx_putW (hctx : sx_ctx j p s m args meth c) (hinj : sx_inj r sh s.heap.size) (hK : sx_K D cI cJ cZ s) (hP : sx_P D cI cJ cZ r sh h H) (hS0 : va_S (sx_A r sh s.heap.size) s.heap H locs) {i ci k ps a : Nat} {v : Value} {h' : sx_H} (hf : sx_fld j i = some (ci, k, ps)) (hw : sh.2 = true) (ha : (sh.1 a).1 = ci + 4) (hdg : decode (sx_b j) pc = .ok (.putfield i, 3))
    (hv : ∀ t : FieldType, sx_tf t (sx_ft ci k) true = false → (∀ b : Bool, sx_tf t (sx_ft ci k) b = true → narrow t v = v ∧ fits t v = true))
    (hnf : ∀ t : FieldType, sx_tf t (sx_ft ci k) true = false)
    (he : ∀ b, b ≠ a → h'.1 b = h.1 b ∧ h'.2.1 b = h.2.1 b ∧ h'.2.2 b = h.2.2 b) (hev : sx_v r (sx_fv h' a ci k) = v) (heo : ∀ z, z ≠ k → sx_fv h' a ci z = sx_fv h a ci z)
    (kk : ∀ (H1 : Heap) (locs1 : List Loc), sx_P D cI cJ cZ r sh h' H1 → va_S (sx_A r sh s.heap.size) s.heap H1 locs1 → W p l e R s m args below meth c H1 locs1 cells slots Q (F0 m (pc + 3) ls rest)) : W p l e R s m args below meth c H locs cells slots Q (F0 m pc ls (v :: .ref (r a) :: rest)) := by
  obtain ⟨hx, hb, hr, hml, hown, hts, hlk⟩ := hctx
  obtain ⟨q, hq, hk, hs1, hlink⟩ := sx_fldf hf
  obtain ⟨ty, hin, hty, hnm, htf⟩ := sx_cls hq
  obtain ⟨q', hq', cell, q1, q2, q3, q4⟩ := sx_at_ob (hP a) ha
  cases Option.some.inj (hq.symm.trans hq')
  have hap := va_apart (own := sx_own j) (tys := [(cI, .int), (cJ, .long), (cZ, .boolean)]) hts hin ty hty hnm hK.1 (show vwCl[ci]? = some (q.1, q.2.1, q.2.2) from hq)
  obtain ⟨hS, hfc, kC, hkC, hkind⟩ := hK.1.1 ci _ hq
  obtain ⟨cf, kf, fi, f, hi, hsl⟩ := hS k hk
  have hi' := hi
  rw [hs1] at hi'
  have hfin : (q.2.1 k).2.2.2 = false := by
    have h1 := htf k hk
    cases hb2 : (q.2.1 k).2.2.2 with
    | false => rfl
    | true => rw [hb2, hnf] at h1; cases h1
  obtain ⟨hn, hfit⟩ := hv (ty k) (hnf _) _ (htf k hk)
  have hlay := hts _ (hin _ (u_in_lay hk))
  unfold u_lay at hlay
  rw [if_neg (by rw [hfin]; decide)] at hlay
  have hst := (u_facts hfc hkC (u_lays hts hin hk) hi).1
  have h6 := u_store hfc hkC hkind hlay hi (hty k hk) hn hfit
  have hn0 : (sh.1 a).1 ≠ 0 := by rw [ha]; exact Nat.succ_ne_zero _
  refine W.putK hx hb (f := f) ⟨hown, hts _ hlink, ⟨_, _, _, hi'⟩, hst⟩ (by rw [q2]; exact h6) q1 q3 (by rw [hsl]; exact k2_hasslot (q4 k hk)) rfl rfl hdg fun H' e1 e2 e3 => ?_
  rw [hsl] at e1 ⊢
  refine kk H' _ (sx_P_put hP hinj hn0 e3 (fun b hb' x => sx_at_ext (he b hb').1 (he b hb').2.1 (he b hb').2.2 x) (sx_at_obI ha hq ?_)) (sx_S_put hw hn0 hS0 e2 e3)
  refine t_OB.to (V := updV (fun k => sx_v r (sx_fv h a ci k)) k v) ⟨_, e1, q2, q3, t_set q4 hap hk v⟩ (fun z hz => ?_)
  unfold updV
  by_cases ez : z = k
  · subst ez; rw [if_pos rfl]; exact hev.symm
  · rw [if_neg ez, heo z ez]
theorem sx_arrI (hK : sx_K D cI cJ cZ s) (n : Nat) (z : Nat → Value) : s.isArrayOf (arrV cI n z) .int := (hK.1.2 0 _ rfl).1 n z
theorem sx_arrJ (hK : sx_K D cI cJ cZ s) (n : Nat) (z : Nat → Value) : s.isArrayOf (arrV cJ n z) .long := (hK.1.2 1 _ rfl).1 n z
theorem sx_arrZ (hK : sx_K D cI cJ cZ s) (n : Nat) (z : Nat → Value) : s.isArrayOf (arrV cZ n z) .boolean := (hK.1.2 2 _ rfl).1 n z
theorem sx_within {i : Int32} {n : Nat} {cc : ClassId} {f : Nat → Value} (h : vp_in i n) : ¬ (i < 0 ∨ (arrV cc n f).slots.size ≤ i.toNatClampNeg) := by rw [arrV_size]; exact h
theorem sx_rd {i : Int32} {n : Nat} {cc : ClassId} {f : Nat → Value} (h : vp_in i n) : (arrV cc n f).slots[i.toNatClampNeg]? = some (f i.toNatClampNeg) := arrV_read _ _ (Nat.not_le.mp fun q => h (Or.inr q))
/-- a store into an array of the world -/
theorem sx_astW (hinj : sx_inj r sh s.heap.size) (hP : sx_P D cI cJ cZ r sh h H) (hS0 : va_S (sx_A r sh s.heap.size) s.heap H locs) {a : Nat} {h' : sx_H} {H1 : Heap} {k : Nat} (hw : sh.2 = true) (ha : (sh.1 a).1 ≠ 0)
    (z : H1.size = H.size) (oq : ∀ q : Nat, q ≠ r a → H1[q]? = H[q]?) (he : ∀ b, b ≠ a → h'.1 b = h.1 b ∧ h'.2.1 b = h.2.1 b ∧ h'.2.2 b = h.2.2 b) (x : sx_at D cI cJ cZ r sh h' H1 a) : sx_P D cI cJ cZ r sh h' H1 ∧ va_S (sx_A r sh s.heap.size) s.heap H1 (locs ++ [⟨r a, k⟩]) :=
  ⟨sx_P_put hP hinj ha oq (fun b hb x => sx_at_ext (he b hb).1 (he b hb).2.1 (he b hb).2.2 x) x, sx_S_put hw ha hS0 z oq⟩
end SXW
