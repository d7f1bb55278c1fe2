-- THE LAW: its loop
section LWL
variable {p : Program} {l : Launch} {e : Env} {s : State} {m : MethodId} {below : List Frame} {meth : Method} {c : Code} {D : va_G} {cI cJ cZ : ClassId} {r : Nat → Nat} {b L : Nat} {xs : Nat → Int32}
theorem dl_39 : decode code 39 = .ok (.tableswitch 711 0 11 #[61, 161, 174, 242, 298, 366, 422, 478, 491, 559, 600, 655], 61) := by decide +kernel
theorem i15 (x : Int32) : x &&& 15 = nI (x.toBitVec.toNat % 16) := pk_and x 4 (by decide)
theorem ofL_sub {L i : Nat} (hL : L ≤ 2048) (hi : i < 2 ^ 30) : (Int32.ofNat L - 4 < nI i) ↔ L < i + 4 := by
  have h1 : (Int32.ofNat L - 4).toInt = (L : Int) - 4 := by
    have e1 : (Int32.ofNat L).toInt = (L : Int) := nI_toInt (n := L) (by omega)
    have e2 : (4 : Int32).toInt = 4 := rfl
    rw [i_sub (by rw [e1, e2]; omega) (by rw [e1, e2]; omega), e1, e2]
  rw [Int32.lt_iff_toInt_lt, h1, nI_toInt (by omega)]
  omega
set_option maxHeartbeats 4000000 in
set_option maxRecDepth 100000 in
theorem law_loop (C0 : LC p l e s m below meth c b L xs D cI cJ cZ r) : ∀ (n i cells slots : Nat) (h : sx_H) (H : Heap) (locs : List Loc) (ls : Array Slot), L ≤ i + n → i ≤ L → cells + n ≤ 601024 → slots + 6 * n ≤ 7293034 → lwS s D cI cJ cZ r h H locs → INV h → lv_has ls 8 [(0, .ref b), (1, .ref (r 0)), (2, .ref (r 40)), (3, .ref (r 39)), (4, .int (nI i))] →
    W p l e room_1 s m #[Value.ref b] below meth c H locs cells slots (lw_Z below #[Value.ref b] s) (F0 m 23 ls []) := by
  obtain ⟨hA0, hL, hfl, hK, ht⟩ := id C0
  obtain ⟨hx, hb, hr, hml, hown, hts', hX, hbl, hlocks, hgv⟩ := hA0
  have hbA : ¬ lA s b := Nat.not_le.mpr hbl
  intro n
  induction n with
  | zero =>
    intro i cells slots h H locs ls hLn hiL hc1 hc2 hLS inv hl
    refine lv_iload hx hb (i := 4) (by decide +kernel) (lv_at hl 4 rfl) ?_
    refine lv_aload_n hx hb (k := 0) (by decide +kernel) rfl (lv_at hl 0 rfl) ?_
    refine va_slen hx hb hX hbl hbA hLS.2.2.1 (by decide +kernel) ?_
    refine lv_iconst (n := 4) (v := 4) hx hb (by decide +kernel) (by decide) ?_
    refine lv_isub hx hb (by decide +kernel) ?_
    refine lv_icmp_gt (off := 727) (tgt := 756) hx hb (by decide +kernel) (by decide) (fun _ => ?_) (fun z => absurd ((ofL_sub hL (by omega)).mpr (by omega)) z)
    refine lv_iconst (n := 1) (v := 1) hx hb (by decide +kernel) (by decide) ?_
    refine va_forget hLS.2.2.1.2.2 ?_
    refine W.widen (k := 601024) (n := 7293034) (by omega) (by omega) ?_
    exact lw_ret hx hb hr hlocks (by decide +kernel)
  | succ n ih =>
    intro i cells slots h H locs ls hLn hiL hc1 hc2 hLS inv hl
    refine lv_iload hx hb (i := 4) (by decide +kernel) (lv_at hl 4 rfl) ?_
    refine lv_aload_n hx hb (k := 0) (by decide +kernel) rfl (lv_at hl 0 rfl) ?_
    refine va_slen hx hb hX hbl hbA hLS.2.2.1 (by decide +kernel) ?_
    refine lv_iconst (n := 4) (v := 4) hx hb (by decide +kernel) (by decide) ?_
    refine lv_isub hx hb (by decide +kernel) ?_
    refine lv_icmp_gt (off := 727) (tgt := 756) hx hb (by decide +kernel) (by decide) (fun _ => ?_) (fun z => ?_)
    · refine lv_iconst (n := 1) (v := 1) hx hb (by decide +kernel) (by decide) ?_
      refine va_forget hLS.2.2.1.2.2 ?_
      refine W.widen (k := 601024) (n := 7293034) (by omega) (by omega) ?_
      exact lw_ret hx hb hr hlocks (by decide +kernel)
    · have hi4 : i + 4 ≤ L := by
        refine Nat.not_lt.mp (fun q => z ((ofL_sub hL (by omega)).mpr q))
      have tail : ∀ (h' : sx_H) (H1 : Heap) (locs1 : List Loc) (ls1 : Array Slot), lwS s D cI cJ cZ r h' H1 locs1 → INV h' → lv_has ls1 8 [(0, .ref b), (1, .ref (r 0)), (2, .ref (r 40)), (3, .ref (r 39)), (4, .int (nI i))] → W p l e room_1 s m #[Value.ref b] below meth c H1 locs1 (cells + 1) (slots + 6) (lw_Z below #[Value.ref b] s) (F0 m 750 ls1 []) := by
        intro h' H1 locs1 ls1 hLS1 inv1 hl1
        refine lv_iinc (v := nI (i + 4)) (lv' := [(4, .int (nI (i + 4))), (0, .ref b), (1, .ref (r 0)), (2, .ref (r 40)), (3, .ref (r 39))]) hx hb (i := 4) (n := 4) (by decide +kernel) hl1 (k := 4) rfl (nI_add i 4) (by decide) rfl (fun ls hl => ?_)
        refine lv_goto (off := -730) (tgt := 23) hx hb (by decide +kernel) (by decide) ?_
        exact ih (i + 4) (cells + 1) (slots + 6) h' H1 locs1 ls (by omega) hi4 (by omega) (by omega) hLS1 inv1 (lv_sub hl [1, 2, 3, 4, 0] rfl)
      refine lv_aload_n hx hb (k := 0) (by decide +kernel) rfl (lv_at hl 0 rfl) ?_
      refine lv_iload hx hb (i := 4) (by decide +kernel) (lv_at hl 4 rfl) ?_
      refine va_sld hx hb hX hbl hbA hLS.2.2.1 (vp_in_nI (by omega) (by omega)) (by decide +kernel) ?_
      refine lv_bipush (n := 15) (v := 15) hx hb (by decide +kernel) (by decide) ?_
      refine lv_iand hx hb (by decide +kernel) ?_
      rw [i15]
      have hk : (xs (Int32.toNatClampNeg (nI i))).toBitVec.toNat % 16 < 16 := Nat.mod_lt _ (by decide)
      generalize (xs (Int32.toNatClampNeg (nI i))).toBitVec.toNat % 16 = k at hk ⊢
      rcases (show k = 0 ∨ k = 1 ∨ k = 2 ∨ k = 3 ∨ k = 4 ∨ k = 5 ∨ k = 6 ∨ k = 7 ∨ k = 8 ∨ k = 9 ∨ k = 10 ∨ k = 11 ∨ 12 ≤ k by omega) with rfl | rfl | rfl | rfl | rfl | rfl | rfl | rfl | rfl | rfl | rfl | rfl | hk12
      · refine lv_tableIn (off := 61) (tgt := 100) hx hb dl_39 (by decide) (by decide) (by decide) (by decide) ?_
        exact cs_feed C0 hLS inv hi4 hl (by omega) (by omega) tail
      · refine lv_tableIn (off := 161) (tgt := 200) hx hb dl_39 (by decide) (by decide) (by decide) (by decide) ?_
        exact cs_load C0 hLS inv hi4 hl (by omega) (by omega) tail
      · refine lv_tableIn (off := 174) (tgt := 213) hx hb dl_39 (by decide) (by decide) (by decide) (by decide) ?_
        exact cs_value C0 hLS inv hi4 hl (by omega) (by omega) tail
      · refine lv_tableIn (off := 242) (tgt := 281) hx hb dl_39 (by decide) (by decide) (by decide) (by decide) ?_
        exact cs_outputs C0 hLS inv hi4 hl (by omega) (by omega) tail
      · refine lv_tableIn (off := 298) (tgt := 337) hx hb dl_39 (by decide) (by decide) (by decide) (by decide) ?_
        exact cs_literal C0 hLS inv hi4 hl (by omega) (by omega) tail
      · refine lv_tableIn (off := 366) (tgt := 405) hx hb dl_39 (by decide) (by decide) (by decide) (by decide) ?_
        exact cs_depth C0 hLS inv hi4 hl (by omega) (by omega) tail
      · refine lv_tableIn (off := 422) (tgt := 461) hx hb dl_39 (by decide) (by decide) (by decide) (by decide) ?_
        exact cs_cone C0 hLS inv hi4 hl (by omega) (by omega) tail
      · refine lv_tableIn (off := 478) (tgt := 517) hx hb dl_39 (by decide) (by decide) (by decide) (by decide) ?_
        exact cs_folded C0 hLS inv hi4 hl (by omega) (by omega) tail
      · refine lv_tableIn (off := 491) (tgt := 530) hx hb dl_39 (by decide) (by decide) (by decide) (by decide) ?_
        exact cs_alike C0 hLS inv hi4 hl (by omega) (by omega) tail
      · refine lv_tableIn (off := 559) (tgt := 598) hx hb dl_39 (by decide) (by decide) (by decide) (by decide) ?_
        exact cs_write C0 hLS inv hi4 hl (by omega) (by omega) tail
      · refine lv_tableIn (off := 600) (tgt := 639) hx hb dl_39 (by decide) (by decide) (by decide) (by decide) ?_
        exact cs_out C0 hLS inv hi4 hl (by omega) (by omega) tail
      · refine lv_tableIn (off := 655) (tgt := 694) hx hb dl_39 (by decide) (by decide) (by decide) (by decide) ?_
        exact cs_look C0 hLS inv hi4 hl (by omega) (by omega) tail
      · refine lv_tableOut (tgt := 750) hx hb dl_39 (Or.inr (by rw [nI_toInt (by omega)]; omega)) (by decide) ?_
        refine W.widen (k := cells + 1) (n := slots + 6) (Nat.le_succ _) (Nat.le_add_right _ _) ?_
        exact tail h H locs ls hLS inv hl
end LWL
