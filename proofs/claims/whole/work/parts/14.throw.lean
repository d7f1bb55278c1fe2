-- A THROW IN A METHOD OF THE FACE
def sx_ci (k : Nat) : Nat := [47, 64, 125].getD k 0
theorem sx_x0 : Cond.classLink "GateText" (sx_ci 0) (sx_exc 0) ∈ sx_tb ∧ Cond.instantiable (sx_exc 0) 6 ∈ sx_tb ∧ Cond.initialized (sx_exc 0) ∈ sx_tb := ⟨sx_in_mem (i := 559) (by decide +kernel), sx_in_mem (i := 560) (by decide +kernel), sx_in_mem (i := 74) (by decide +kernel)⟩
theorem sx_x1 : Cond.classLink "GateText" (sx_ci 1) (sx_exc 1) ∈ sx_tb ∧ Cond.instantiable (sx_exc 1) 6 ∈ sx_tb ∧ Cond.initialized (sx_exc 1) ∈ sx_tb := ⟨sx_in_mem (i := 627) (by decide +kernel), sx_in_mem (i := 628) (by decide +kernel), sx_in_mem (i := 75) (by decide +kernel)⟩
theorem sx_x2 : Cond.classLink "GateText" (sx_ci 2) (sx_exc 2) ∈ sx_tb ∧ Cond.instantiable (sx_exc 2) 6 ∈ sx_tb ∧ Cond.initialized (sx_exc 2) ∈ sx_tb := ⟨sx_in_mem (i := 687) (by decide +kernel), sx_in_mem (i := 688) (by decide +kernel), sx_in_mem (i := 77) (by decide +kernel)⟩
theorem sx_xk {k : Nat} (hk : k < 3) : Cond.classLink "GateText" (sx_ci k) (sx_exc k) ∈ sx_tb ∧ Cond.instantiable (sx_exc k) 6 ∈ sx_tb ∧ Cond.initialized (sx_exc k) ∈ sx_tb := by
  match k, hk with
  | 0, _ => exact sx_x0
  | 1, _ => exact sx_x1
  | 2, _ => exact sx_x2
/-- a throw's site: what stands behind the 'new' -/
def sx_site (j pc : Nat) : Bool := match sx_code j pc with
  | some (.new i, _) => match sx_thr j i, sx_code j (pc + 3), sx_code j (pc + 4), sx_code j (pc + 6), sx_code j (pc + 9) with
    | some k, some (.dup, _), some (.ldc q, _), some (.invokespecial ic, _), some (.athrow, _) => Nat.blt k 3 && (Nat.beq i (sx_ci k) && (Nat.beq ic (sx_xi k) && ((sx_strs.any fun z => Nat.beq z.1 q) && (Nat.beq (sx_rc j) 1 && (decide (sx_own j = "GateText") && (Nat.ble 6 (sx_fr j) && Nat.ble 82 (sx_lc j)))))))
    | _, _, _, _, _ => false
  | _ => true
set_option maxRecDepth 100000 in
theorem sx_site_ok : (List.range sx_nM).all (fun j => (List.range (sx_N j)).all (sx_site j)) = true := by decide +kernel
theorem sx_sitef {j pc i len k : Nat} (hd : sx_code j pc = some (.new i, len)) (hk : sx_thr j i = some k) : ∃ q tx, k < 3 ∧ i = sx_ci k ∧ (q, tx) ∈ sx_strs ∧ sx_rc j = 1 ∧ sx_own j = "GateText" ∧ 6 ≤ sx_fr j ∧ 82 ≤ sx_lc j ∧
    decode (sx_b j) pc = .ok (.new i, 3) ∧ decode (sx_b j) (pc + 3) = .ok (.dup, 1) ∧ decode (sx_b j) (pc + 4) = .ok (.ldc q, 2) ∧ decode (sx_b j) (pc + 6) = .ok (.invokespecial (sx_xi k), 3) ∧ decode (sx_b j) (pc + 9) = .ok (.athrow, 1) := by
  have hj := sx_code_lt hd
  have hp : pc < sx_N j := by
    rcases Nat.lt_or_ge pc (sx_N j) with q | q
    · exact q
    · rw [sx_nk j hj pc q] at hd; cases hd
  have h1 := sx_all (sx_all sx_site_ok hj) hp
  unfold sx_site at h1
  rw [hd] at h1
  dsimp only at h1
  rw [hk] at h1
  split at h1
  · rename_i k' l3 q l4 ic l6 l9 e0 e3 e4 e6 e9
    cases e0
    simp only [Bool.and_eq_true, decide_eq_true_eq, List.any_eq_true] at h1
    obtain ⟨a1, a2, a3, ⟨⟨q', tx⟩, b1, b2⟩, a5, a6, a7, a8⟩ := h1
    have b2 : q' = q := Nat.eq_of_beq_eq_true b2
    subst b2
    have a3 : ic = sx_xi k := Nat.eq_of_beq_eq_true a3
    subst a3
    exact ⟨q', tx, Nat.le_of_ble_eq_true a1, Nat.eq_of_beq_eq_true a2, b1, Nat.eq_of_beq_eq_true a5, a6, Nat.le_of_ble_eq_true a7, Nat.le_of_ble_eq_true a8, sx_dec hd, sx_dec e3, sx_dec e4, sx_dec e6, sx_dec e9⟩
  · cases h1
theorem sx_same_cell {s t : State} {cells slots : Nat} (h : s.sameButNew t [] cells slots) {a : Nat} (ha : a < s.heap.size) : t.heap[a]? = s.heap[a]? := by
  have hc : s.heap[a]? = some s.heap[a] := Array.getElem?_eq_getElem ha
  obtain ⟨c', h1, h2, h3, h4⟩ := h.2.2.2.2.2 a _ hc
  rw [h1, hc, h2]
  have : c'.slots = s.heap[a].slots := by
    apply Array.ext_getElem?
    intro i
    exact h4 i (by simp)
  rw [this]
set_option maxHeartbeats 4000000 in
theorem sx_newOk_t {l : Launch} (hl : l.flags = pinnedFlags ++ [noTraceFlag]) (sh : sx_S) : sx_newOk l sh := by
  intro j pc lv h Q i len k hd hk hw hQ D cI cJ cZ r p e s m args below meth c Hp locs ls hctx hinj hK hP hlo hS
  obtain ⟨hx, hb, hr, hml, hown, hts, hlk, htf⟩ := hctx
  obtain ⟨q, tx, hk3, hi, hstr, hrc, hgt, hfr, hlc, hd0, hd3, hd4, hd6, hd9⟩ := sx_sitef hd hk
  obtain ⟨⟨htf, hst⟩, hexc⟩ := htf hrc
  obtain ⟨qa, hqa⟩ := hst _ hstr
  obtain ⟨hx1, hx2, hx3⟩ := sx_xk hk3
  rw [hgt] at hown
  subst hi
  refine va_forget (fun z hz => ?_) ?_
  · rcases hS.2.2 z hz with ⟨h1, -⟩ | h1
    · rw [hw] at h1; cases h1
    · exact h1
  intro T hT X
  obtain ⟨vm₁, cX, kX, hfX, hkX, -, -, X₁, st1⟩ := X.newCold hx (own := "GateText") (C := sx_exc k) (index := sx_ci k) (n := 6) hown (hts _ hx1) (hts _ hx2) (hts _ hx3) (g := F0 m pc ls []) rfl (by rw [hb]; exact hd0)
    (by show 0 + 1 ≤ sx_rc j; omega) (by show 0 + 6 ≤ 6 * sx_rc j; omega)
  have key : W p l e (sx_rm j) s m args below meth c ((T.setVm vm₁).pushCell (freshCell cX kX)).heap [] (0 + 1) (0 + 6) (sx_Z j D cI cJ cZ r sh Q below args s) (F0 m (pc + 3) ls [.ref T.heap.size]) := by
    refine lv_dup hx hb hd3 rfl ?_
    refine va_ldcS hx hb hown hqa hd4 ?_
    intro T2 hT2 X2
    have htr : e.platform.stackTraces = false := Launch.traces_off hl X2.admits
    have hcell : T2.heap[T.heap.size]? = some (freshCell cX kX) := by rw [hT2]; exact State.heap_pushCell_size _ _
    have hnew : s.heap.size ≤ T.heap.size := by rw [hT]; exact hS.1
    obtain ⟨U, hsteps, hrun, hend, hW, hsame, ce, hce, K⟩ := X2.ctorThrowS hx htr (own := "GateText") (cls := sx_exc k) (names := sx_up) (ic := sx_xi k) hown (by
        match k, hk3 with
        | 0, _ => decide +kernel
        | 1, _ => decide +kernel
        | 2, _ => decide +kernel) (by decide +kernel) (htf k hk3) (fun y hy => by cases hy) hfX hkX hcell hnew (msg := .ref qa) rfl
      (g := F0 m (pc + 6) ls [.ref qa, .ref T.heap.size, .ref T.heap.size]) rfl (by rw [hml]; exact hlo.1) rfl rfl (rest := []) rfl (by rw [hb]; exact hd6) (by rw [hb]; exact hd9) (covers_of_empty hexc _)
      (by show 2 + 3 < sx_fr j; omega) (by show 2 * 0 + 1 + (13 * (2 + 1) + 42) ≤ sx_lc j; omega) hlk
    refine ⟨U, hsteps, Or.inr ⟨k, h, T.heap.size, hQ, hrun, hend, hW, hsame, fun a => ?_, ce, hce, K.cls, K.vm⟩⟩
    by_cases hz : (sh.1 a).1 = 0
    · unfold sx_at; rw [hz]; trivial
    · refine (hP a).kept ?_
      have hlt := hinj.2 a hz
      rw [show U.heap[r a]? = s.heap[r a]? from sx_same_cell hsame hlt]
      exact (hS.2.1 (r a) hlt (fun hA => by
        rcases hA with ⟨h1, -⟩ | h1
        · rw [hw] at h1; cases h1
        · omega)).symm
  obtain ⟨t, a1, b1⟩ := key _ rfl X₁
  exact ⟨t, st1 t a1, b1⟩
