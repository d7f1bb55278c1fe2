-- THE REFERENCE'S FACE
variable {h : sx_H} {n er pl M I O A : Nat} {t : Nat → Nat} {tx L OU : List Nat} {G : List gt} {T : List Nat} {dp hi lo fo : Nat → Nat}
theorem nI_vec {v I : Nat} (hv : v < 2 ^ I) (hI : I ≤ 14) : 0 ≤ (nI v).toInt ∧ (nI v).toInt < (2 ^ I : Nat) := by
  have := pw14 hI
  rw [nI_toInt (by omega)]
  omega
theorem f_value {x y : Int32} {m v : Nat} {vl : Nat → Nat} {f : Int32 → sx_H → Prop} (ir : IR h n t tx er pl M I O A L OU G) (np : NP M I O A L OU G T dp hi lo) (hx : ith M (sv L ++ T) x m) (hy : y = nI v) (hv : v < 2 ^ I) (hE : vE I (I + 1 + A) v hi lo vl) (h2 : ∀ n, n < I + 1 + A → vl n < 2)
    (H : ∀ h', PR h h' 0 n t tx er pl M I O A L OU G → f (nI (lv vl (nl (sv L ++ T) m))) h') :
    sx_X sx_w 109 0 [some (.ref 40), some (.int x), some (.int y)] [] h (sx_qi f) := by
  have hM := np.1.1.1
  have hI := np.1.1.2.1
  obtain ⟨t1, t2, t3, t4⟩ := np.tv hE h2
  subst hy
  refine g_109_0 h 40 x _ ⟨rfl, f_isThere rfl ir.2.2.2 np (fun _ _ => ⟨fun z => absurd z (by decide), fun _ => ⟨rfl, f_isVector rfl ir.2.2.2.1.2.1 hI (fun _ _ _ => ⟨fun _ => ⟨rfl, f_fails0 ⟨fun _ => ⟨rfl, ?_⟩, fun z => absurd rfl z⟩⟩, fun z => absurd z (by decide)⟩) (fun hn => absurd (nI_vec hv hI) hn)⟩⟩) (fun hn => absurd ⟨m, hx⟩ hn)⟩
  obtain ⟨ex, lx, mx⟩ := hx
  refine f_works (th_IR 0 ir).2.2.2 np.1 np.dq np.dp0 np.dpB (by decide) hv t1 t2 t3 t4 (fun h' k' hv' => ⟨rfl, ?_⟩)
  rw [ex]
  refine f_bit rfl (by omega) (hv' _ (by omega)) ?_
  have e : fl (tvl (sv L ++ T) vl (m / 2)) (m % 2) = lv vl (nl (sv L ++ T) m) := lv_nl mx
  rw [e]
  exact H h' ((k'.kq (fun b hb => by omega)).PR ir)
theorem f_value_t {x y : Int32} {f : Int32 → sx_H → Prop} (ir : IR h n t tx er pl M I O A L OU G) (np : NP M I O A L OU G T dp hi lo) (hno : (¬ ∃ m, ith M (sv L ++ T) x m) ∨ ¬ (0 ≤ y.toInt ∧ y.toInt < (2 ^ I : Nat))) (H : ∀ h', PR h h' 1 n t tx er pl M I O A L OU G → f 0 h') :
    sx_X sx_w 109 0 [some (.ref 40), some (.int x), some (.int y)] [] h (sx_qi f) := by
  have hI := np.1.1.2.1
  refine g_109_0 h 40 x _ ⟨rfl, f_isThere rfl ir.2.2.2 np (fun m hm => ⟨fun z => absurd z (by decide), fun _ => ⟨rfl, f_isVector rfl ir.2.2.2.1.2.1 hI (fun v e hv => ?_) (fun hn => ⟨fun z => absurd rfl z, fun _ => ⟨rfl, f_fails1 ⟨fun z => absurd z (by decide), fun _ => H _ (th_PR 1 ir)⟩⟩⟩)⟩⟩) (fun hn => ⟨fun _ => ⟨rfl, f_fails1 ⟨fun z => absurd z (by decide), fun _ => H _ (th_PR 1 ir)⟩⟩, fun z => absurd rfl z⟩)⟩
  rcases hno with q | q
  · exact absurd ⟨m, hm⟩ q
  · rw [e] at q
    exact absurd (nI_vec hv hI) q
theorem f_outputs {y : Int32} {v : Nat} {vl : Nat → Nat} {f : Int32 → sx_H → Prop} (ir : IR h n t tx er pl M I O A L OU G) (np : NP M I O A L OU G T dp hi lo) (hy : y = nI v) (hv : v < 2 ^ I) (hE : vE I (I + 1 + A) v hi lo vl) (h2 : ∀ n, n < I + 1 + A → vl n < 2)
    (H : ∀ h', PR h h' 0 n t tx er pl M I O A L OU G → f (nI (ow (fun x => lv vl (nl (sv L ++ T) x)) OU 0)) h') :
    sx_X sx_w 110 0 [some (.ref 40), some (.int y), none, none] [] h (sx_qi f) := by
  have w := np.1
  have hI := w.1.2.1
  obtain ⟨t1, t2, t3, t4⟩ := np.tv hE h2
  subst hy
  refine g_110_0 h 40 _ ⟨rfl, f_isVector rfl ir.2.2.2.1.2.1 hI (fun _ _ _ => ⟨fun _ => ⟨rfl, f_fails0 ⟨fun _ => ⟨rfl, ?_⟩, fun z => absurd rfl z⟩⟩, fun z => absurd z (by decide)⟩) (fun hn => absurd (nI_vec hv hI) hn)⟩
  refine f_works (th_IR 0 ir).2.2.2 np.1 np.dq np.dp0 np.dpB (by decide) hv t1 t2 t3 t4 (fun h1 k1 hv1 => ?_)
  have pr := (k1.kq (fun b hb => by omega)).PR ir
  have rm := pr.2.2.2.2.2
  have key : ∀ (rest : List Nat) (k a : Nat), OU.drop k = rest → k ≤ OU.length → a + ow (fun x => lv vl (nl (sv L ++ T) x)) rest k = ow (fun x => lv vl (nl (sv L ++ T) x)) OU 0 → sx_X sx_w 110 32 [some (.ref 40), some (.int (nI v)), some (.int (nI a)), some (.int (nI k))] [] h1 (sx_qi f) := by
    intro rest
    induction rest with
    | nil =>
      intro k a hd hk ha
      have := dropn hd
      refine g_110_32 h1 40 _ _ _ ⟨rfl, ?_⟩
      rw [rm.1.2.2.2]
      refine pk_le O k (fun _ => ?_) (fun z => by have := w.2.1; omega) rfl rfl (by have := w.1; omega) (by have := w.1; have := w.2.1; omega)
      have ea : a = ow (fun x => lv vl (nl (sv L ++ T) x)) OU 0 := ha
      show f (nI a) h1
      rw [ea]
      exact H h1 pr
    | cons x rest ihr =>
      intro k a hd _ ha
      obtain ⟨hk, hg, hd'⟩ := dropc hd
      have w1 := w.1
      have w2 := w.2.1
      have hxO := List.mem_of_getElem? hg
      have hx := w.2.2.2.2 x hxO
      have mx := np.stn (np.2.1 x hxO)
      have hb := lv_2 (x := x) (t1 (x / 2))
      refine g_110_32 h1 40 _ _ _ ⟨rfl, ?_⟩
      rw [rm.1.2.2.2, nI_clamp (n := k) (by omega), show h1.1 (40 + 4) k = nI x from rm.2.2.1 k x hg]
      refine pk_le O k (fun z => (by omega)) (fun _ => ⟨rfl, ⟨rfl, vp_in_nI (N := 16) (by omega) (by decide)⟩, rfl, ?_⟩)
      refine f_bit rfl (by omega) (hv1 _ (by omega)) ?_
      have hp : 2 ^ k ≤ 2 ^ 16 := Nat.pow_le_pow_right (by decide) (by omega)
      have hm : lv (tvl (sv L ++ T) vl) x * 2 ^ k ≤ 1 * 2 ^ 16 := Nat.mul_le_mul (by omega) hp
      have e : fl (tvl (sv L ++ T) vl (x / 2)) (x % 2) = lv (tvl (sv L ++ T) vl) x := rfl
      rw [e, pk_shlN (nI k &&& 31) k (smd (by omega)) (by omega), nI_add, nI_1]
      refine ihr (k + 1) _ hd' (by omega) ?_
      rw [lv_nl mx, ← ha]
      show _ = a + (lv vl (nl (sv L ++ T) x) * 2 ^ k + ow (fun x => lv vl (nl (sv L ++ T) x)) rest (k + 1))
      omega
  exact key OU 0 0 rfl (Nat.zero_le _) (Nat.zero_add _)
theorem f_outputs_t {y : Int32} {f : Int32 → sx_H → Prop} (ir : IR h n t tx er pl M I O A L OU G) (np : NP M I O A L OU G T dp hi lo) (hno : ¬ (0 ≤ y.toInt ∧ y.toInt < (2 ^ I : Nat))) (H : ∀ h', PR h h' 1 n t tx er pl M I O A L OU G → f 0 h') :
    sx_X sx_w 110 0 [some (.ref 40), some (.int y), none, none] [] h (sx_qi f) := by
  have hI := np.1.1.2.1
  refine g_110_0 h 40 _ ⟨rfl, f_isVector rfl ir.2.2.2.1.2.1 hI (fun v e hv => ?_) (fun hn => ⟨fun z => absurd rfl z, fun _ => ⟨rfl, f_fails1 ⟨fun z => absurd z (by decide), fun _ => H _ (th_PR 1 ir)⟩⟩⟩)⟩
  rw [e] at hno
  exact absurd (nI_vec hv hI) hno
theorem f_depth {x : Int32} {m : Nat} {f : Int32 → sx_H → Prop} (ir : IR h n t tx er pl M I O A L OU G) (np : NP M I O A L OU G T dp hi lo) (hx : ith M (sv L ++ T) x m) (H : ∀ h', PR h h' 0 n t tx er pl M I O A L OU G → f (nI (dp (m / 2))) h') :
    sx_X sx_w 112 0 [some (.ref 40), some (.int x)] [] h (sx_qi f) := by
  have hM := np.1.1.1
  refine g_112_0 h 40 x ⟨rfl, f_isThere rfl ir.2.2.2 np (fun _ _ => ⟨fun _ => ⟨rfl, f_fails0 ⟨fun _ => ⟨rfl, ?_⟩, fun z => absurd rfl z⟩⟩, fun z => absurd z (by decide)⟩) (fun hn => absurd ⟨m, hx⟩ hn)⟩
  obtain ⟨ex, lx, mx⟩ := hx
  refine f_deepen (th_IR 0 ir).2.2.2 np.1 np.dq np.dp0 np.dpB (by decide) (fun h' k' hd' => ?_)
  rw [ex, half_nI (by omega), nI_clamp (by omega), show h'.1 (40 + 15) (m / 2) = nI (dp (m / 2)) from hd' _ (by omega)]
  exact ⟨rfl, by decide, ⟨rfl, vp_in_nI (N := 1001) (by omega) (by decide)⟩, H h' ((k'.kq (fun b hb => by omega)).PR ir)⟩
theorem f_depth_t {x : Int32} {f : Int32 → sx_H → Prop} (ir : IR h n t tx er pl M I O A L OU G) (np : NP M I O A L OU G T dp hi lo) (hno : ¬ ∃ m, ith M (sv L ++ T) x m) (H : ∀ h', PR h h' 1 n t tx er pl M I O A L OU G → f 0 h') :
    sx_X sx_w 112 0 [some (.ref 40), some (.int x)] [] h (sx_qi f) :=
  g_112_0 h 40 x ⟨rfl, f_isThere rfl ir.2.2.2 np (fun m hm => absurd ⟨m, hm⟩ hno) (fun hn => ⟨fun z => absurd rfl z, fun _ => ⟨rfl, f_fails1 ⟨fun z => absurd z (by decide), fun _ => H _ (th_PR 1 ir)⟩⟩⟩)⟩
theorem f_cone {x : Int32} {m : Nat} {f : Int32 → sx_H → Prop} (ir : IR h n t tx er pl M I O A L OU G) (np : NP M I O A L OU G T dp hi lo) (hx : ith M (sv L ++ T) x m) (H : ∀ h', PR h h' 0 n t tx er pl M I O A L OU G → f (nI (cnP (cn I (I + 1 + A) (fun k => k = nl (sv L ++ T) m / 2) (fun n => hi n / 2) (fun n => lo n / 2)) (List.range' (I + 1) A))) h') :
    sx_X sx_w 113 0 [some (.ref 40), some (.int x)] [] h (sx_qi f) := by
  have hM := np.1.1.1
  refine g_113_0 h 40 x ⟨rfl, f_isThere rfl ir.2.2.2 np (fun _ _ => ⟨fun _ => ⟨rfl, f_fails0 ⟨fun _ => ⟨rfl, ?_⟩, fun z => absurd rfl z⟩⟩, fun z => absurd z (by decide)⟩) (fun hn => absurd ⟨m, hx⟩ hn)⟩
  obtain ⟨ex, lx, mx⟩ := hx
  rw [ex]
  refine f_coneOf (th_IR 0 ir).2.2.2 np.1 (by omega) (fun h' k' => ?_)
  rw [← np.coneOf mx]
  exact H h' ((k'.kq (fun b hb => by unfold r57 at hb; omega)).PR ir)
theorem f_cone_t {x : Int32} {f : Int32 → sx_H → Prop} (ir : IR h n t tx er pl M I O A L OU G) (np : NP M I O A L OU G T dp hi lo) (hno : ¬ ∃ m, ith M (sv L ++ T) x m) (H : ∀ h', PR h h' 1 n t tx er pl M I O A L OU G → f 0 h') :
    sx_X sx_w 113 0 [some (.ref 40), some (.int x)] [] h (sx_qi f) :=
  g_113_0 h 40 x ⟨rfl, f_isThere rfl ir.2.2.2 np (fun m hm => absurd ⟨m, hm⟩ hno) (fun hn => ⟨fun z => absurd rfl z, fun _ => ⟨rfl, f_fails1 ⟨fun z => absurd z (by decide), fun _ => H _ (th_PR 1 ir)⟩⟩⟩)⟩
theorem in_of {w : Int32} {b : Nat} (hb : b < 2 ^ 31) : (0 ≤ w ∧ w ≤ nI b) ↔ (0 ≤ w.toInt ∧ w.toInt ≤ b) := by
  rw [Int32.le_iff_toInt_le, Int32.le_iff_toInt_le, nI_toInt hb]
  exact Iff.rfl
theorem f_look {w : Int32} {f : Int32 → sx_H → Prop} (ir : IR h n t tx er pl M I O A L OU G) (np : NP M I O A L OU G T dp hi lo) (hw : 0 ≤ w.toInt ∧ w.toInt ≤ 8)
    (H : ∀ h', PR h h' 0 n t tx er pl M I O A L OU G → f (nI (lka n tx er pl M I O A hi lo fo (sv L ++ T) OU w)) h') : sx_X sx_w 121 0 [some (.ref 40), some (.int w)] [] h (sx_qi f) := by
  have pr := th_PR 0 ir
  obtain ⟨i1, i2, i3, i4⟩ := pr.2.2
  have H' := H _ pr
  refine g_121_0 h 40 w (f_in (fun _ => ⟨fun _ => ⟨rfl, f_fails0 ⟨fun _ => ?_, fun z => absurd rfl z⟩⟩, fun z => absurd z (by decide)⟩) (fun hn => absurd ((in_of (b := 8) (by decide)).mpr hw) hn))
  rw [i4.1.1, i4.1.2.1, i4.1.2.2.1, i4.1.2.2.2, i1.1, i2.1, i3.1, i3.2]
  refine ⟨fun z => ⟨rfl, ?_⟩, fun z0 => ⟨fun z => ⟨rfl, ?_⟩, fun z1 => ⟨fun z => ⟨rfl, ?_⟩, fun z2 => ⟨fun z => ⟨rfl, ?_⟩, fun z3 => ⟨fun z => ⟨rfl, ?_⟩, fun z4 => ⟨fun z => ⟨rfl, ?_⟩, fun z5 => ⟨fun z => ⟨rfl, ?_⟩, fun z6 => ⟨fun z => ⟨rfl, ?_⟩, fun z7 => ⟨rfl, ?_⟩⟩⟩⟩⟩⟩⟩⟩⟩
  · unfold lka at H'; rw [if_pos z] at H'; exact H'
  · unfold lka at H'; rw [if_neg z0, if_pos z] at H'; exact H'
  · unfold lka at H'; rw [if_neg z0, if_neg z1, if_pos z] at H'; exact H'
  · unfold lka at H'; rw [if_neg z0, if_neg z1, if_neg z2, if_pos z] at H'; exact H'
  · unfold lka at H'; rw [if_neg z0, if_neg z1, if_neg z2, if_neg z3, if_pos z] at H'; exact H'
  · unfold lka at H'; rw [if_neg z0, if_neg z1, if_neg z2, if_neg z3, if_neg z4, if_pos z] at H'; exact H'
  · unfold lka at H'; rw [if_neg z0, if_neg z1, if_neg z2, if_neg z3, if_neg z4, if_neg z5, if_pos z] at H'; exact H'
  · unfold lka at H'; rw [if_neg z0, if_neg z1, if_neg z2, if_neg z3, if_neg z4, if_neg z5, if_neg z6, if_pos z] at H'; exact H'
  · refine f_needed i4 np.1 (fun h' k' _ _ => ?_)
    have H2 := H h' ((k'.kq (fun b hb => by unfold r57 at hb; omega)).PR ir)
    unfold lka at H2
    rw [if_neg z0, if_neg z1, if_neg z2, if_neg z3, if_neg z4, if_neg z5, if_neg z6, if_neg z7, np.cOr] at H2
    exact H2
theorem f_look_t {w : Int32} {f : Int32 → sx_H → Prop} (ir : IR h n t tx er pl M I O A L OU G) (hw : ¬ (0 ≤ w.toInt ∧ w.toInt ≤ 8)) (H : ∀ h', PR h h' 1 n t tx er pl M I O A L OU G → f 0 h') : sx_X sx_w 121 0 [some (.ref 40), some (.int w)] [] h (sx_qi f) :=
  g_121_0 h 40 w (f_in (fun hn => absurd ((in_of (b := 8) (by decide)).mp hn) hw) (fun _ => ⟨fun z => absurd rfl z, fun _ => ⟨rfl, f_fails1 ⟨fun z => absurd z (by decide), fun _ => H _ (th_PR 1 ir)⟩⟩⟩))
theorem sar8 (v : Int64) {j : Nat} (hj : j < 8) : Int64.toInt32 ((v >>> (Int32.toInt64 (nI (8 * j)) &&& 63)) &&& 255) = nI (w8 v j) := by
  have hs : ((Int32.toInt64 (nI (8 * j)) &&& 63).toBitVec.smod 64).toNat = 8 * j := by
    rw [wb_c _ (by omega), wb_tb, wb_sm _ (by omega), BitVec.toNat_ofNat, Nat.mod_eq_of_lt (by omega)]
  have e : (v >>> (Int32.toInt64 (nI (8 * j)) &&& 63)).toBitVec.toNat % 256 = w8 v j := by
    apply Nat.eq_of_testBit_eq
    intro i
    rw [w8_bit, show (256 : Nat) = 2 ^ 8 from rfl, Nat.testBit_mod_two_pow]
    by_cases hi : i < 8
    · have h1 : (v >>> (Int32.toInt64 (nI (8 * j)) &&& 63)).toBitVec = v.toBitVec.sshiftRight (8 * j) := by
        rw [Int64.toBitVec_shiftRight]
        show v.toBitVec.sshiftRight _ = _
        rw [hs]
      rw [h1]
      have h2 : (v.toBitVec.sshiftRight (8 * j)).getLsbD i = v.toBitVec.getLsbD (8 * j + i) := by
        rw [BitVec.getLsbD_sshiftRight]
        simp [show i < 64 by omega, show 8 * j + i < 64 by omega]
      simp only [BitVec.getLsbD] at h2
      rw [h2]
    · simp [hi]
  rw [l255, e, lN_i]
theorem f_feed {y : Int32} {v : Int64} {k : Nat} {f : Int32 → sx_H → Prop} (ir : IR h n t tx er pl M I O A L OU G) (hy : y = nI k) (hk : 1 ≤ k ∧ k ≤ 8) (hn : n + k ≤ 8192)
    (H : ∀ h', PR h h' 0 (n + k) (fd t n v) tx er pl M I O A L OU G → f (nI (n + k)) h') :
    sx_X sx_w 108 0 [some (.ref 40), some (.int y), some (.long v), none, none] [] h (sx_qi f) := by
  subst hy
  have ir2 := th_IR 0 (th_IR 0 ir)
  have key : ∀ (e j : Nat) (h0 : sx_H), j + e = k → kp (fun b => b = 41) (th (th h 0) 0) h0 → (∀ i, i < n + j → h0.1 41 i = nI (fd t n v i) ∧ fd t n v i < 256) → sx_X sx_w 108 54 [some (.ref 40), some (.int (nI k)), some (.long v), none, some (.int (nI j))] [] h0 (sx_qi f) := by
    intro e
    induction e with
    | zero =>
      intro j h0 hj k0 hz
      have ej : j = k := by omega
      subst ej
      have e40 : h0.1 40 = (th (th h 0) 0).1 40 := k0.i (by omega)
      have e2 : h0.1 40 2 = nI n := by rw [e40]; exact ir2.1.1
      refine g_108_54 h0 40 _ _ _ ?_
      rw [e2, nI_add, sx_u_eq, va_up_self]
      refine pk_le j j (fun _ => ⟨rfl, ⟨rfl, rfl⟩, rfl, H _ ?_⟩) (fun z => absurd z (Nat.lt_irrefl _))
      have u40 : ∀ q, q ≠ 2 → sx_u h0.1 40 2 (nI (n + j)) 40 q = (th (th h 0) 0).1 40 q := fun q hq => by rw [sx_u_eq, va_up_ne _ _ hq, e40]
      have ub : ∀ b, b ≠ 40 → b ≠ 41 → sx_u h0.1 40 2 (nI (n + j)) b = (th (th h 0) 0).1 b := fun b hb h41 => by rw [sx_u_ne hb]; exact k0.i h41
      refine ⟨(((th_kc h 0).tr (th_kc _ 0)).tr (k0.kc (fun b hb => by omega))).tr (kp_hw (S := fun b => 40 ≤ b) (a := 40) (by decide)), ?_, ⟨?_, hn, fun i hi => ?_⟩, ir2.2.1.eq ?_ ?_, ⟨?_, ?_⟩, ir2.2.2.2.eq (fun q h1 h2 => ?_) (fun q h1 h2 => ?_)⟩
      · dsimp only
        rw [u40 0 (by decide)]; exact th_0 _ _
      · dsimp only
        rw [sx_u_eq, va_up_self]
      · dsimp only
        rw [sx_u_ne (by decide)]; exact hz i hi
      · exact ub 42 (by decide) (by decide)
      · exact u40 4 (by decide)
      · dsimp only
        rw [u40 5 (by decide)]; exact ir2.2.2.1.1
      · dsimp only
        rw [u40 6 (by decide)]; exact ir2.2.2.1.2
      · exact ub q (by omega) (by omega)
      · exact u40 q (by omega)
    | succ e ih =>
      intro j h0 hj k0 hz
      have e40 : h0.1 40 = (th (th h 0) 0).1 40 := k0.i (by omega)
      have e2 : h0.1 40 2 = nI n := by rw [e40]; exact ir2.1.1
      refine g_108_54 h0 40 _ _ _ ?_
      rw [e2, nI_add, nI_add, nI_clamp (n := n + j) (by omega), nI_1, show (8 : Int32) * nI j = nI (8 * j) from nI_mul 8 j, sar8 v (by omega)]
      refine pk_le k j (fun z => (by omega)) (fun _ => ⟨rfl, rfl, ⟨rfl, rfl, vp_in_nI (N := 8192) (by omega) (by decide)⟩, ?_⟩)
      refine ih (j + 1) _ (by omega) (k0.tr (kp_hw (S := fun b => b = 41) rfl)) (fun i hi => ?_)
      show sx_u h0.1 41 (n + j) _ 41 i = _ ∧ _
      rw [sx_u_eq]
      by_cases c : i = n + j
      · rw [c, va_up_self]
        have ef : fd t n v (n + j) = w8 v j := by
          unfold fd
          rw [if_neg (by omega), show n + j - n = j by omega]
        rw [ef]
        exact ⟨rfl, w8_lt _ _⟩
      · rw [va_up_ne _ _ c]; exact hz i (by omega)
  refine g_108_0 h 40 _ _ (pk_lt (y := 1) k 1 (fun z => (by omega)) (fun _ => pk_le (y := 8) k 8 (fun _ => ⟨rfl, f_fails0 ⟨fun z => absurd rfl z, fun _ => ⟨rfl, ?_⟩⟩⟩) (fun z => (by omega))))
  rw [(th_IR 0 ir).1.1, nI_add]
  refine pk_le (y := 8192) (n + k) 8192 (fun _ => ⟨rfl, f_fails0 ⟨fun _ => ?_, fun z => absurd rfl z⟩⟩) (fun z => (by omega))
  refine key k 0 _ (by omega) kp.rf (fun i hi => ?_)
  have ef : fd t n v i = t i := by unfold fd; rw [if_pos (by omega)]
  rw [ef]
  exact ir2.1.2.2 i (by omega)
theorem f_feed_t0 {y : Int32} {v : Int64} {f : Int32 → sx_H → Prop} (ir : IR h n t tx er pl M I O A L OU G) (hno : ¬ (1 ≤ y.toInt ∧ y.toInt ≤ 8)) (H : ∀ h', PR h h' 1 n t tx er pl M I O A L OU G → f 0 h') :
    sx_X sx_w 108 0 [some (.ref 40), some (.int y), some (.long v), none, none] [] h (sx_qi f) := by
  refine g_108_0 h 40 _ _ ⟨fun z => ⟨rfl, f_fails1 ⟨fun _ => H _ (th_PR 1 ir), fun z => absurd z (by decide)⟩⟩, fun z1 => ⟨fun z2 => absurd ⟨?_, ?_⟩ hno, fun z2 => ⟨rfl, f_fails1 ⟨fun _ => H _ (th_PR 1 ir), fun z => absurd z (by decide)⟩⟩⟩⟩
  · rw [Int32.lt_iff_toInt_lt] at z1
    have : (1 : Int32).toInt = 1 := rfl
    omega
  · rw [Int32.le_iff_toInt_le] at z2
    exact z2
theorem f_feed_t1 {y : Int32} {v : Int64} {k : Nat} {f : Int32 → sx_H → Prop} (ir : IR h n t tx er pl M I O A L OU G) (hy : y = nI k) (hk : 1 ≤ k ∧ k ≤ 8) (hn : ¬ n + k ≤ 8192) (H : ∀ h', PR h h' 2 n t tx er pl M I O A L OU G → f 0 h') :
    sx_X sx_w 108 0 [some (.ref 40), some (.int y), some (.long v), none, none] [] h (sx_qi f) := by
  subst hy
  have h81 := ir.1.2.1
  refine g_108_0 h 40 _ _ (pk_lt (y := 1) k 1 (fun z => (by omega)) (fun _ => pk_le (y := 8) k 8 (fun _ => ⟨rfl, f_fails0 ⟨fun z => absurd rfl z, fun _ => ⟨rfl, ?_⟩⟩⟩) (fun z => (by omega))))
  rw [(th_IR 0 ir).1.1, nI_add]
  refine pk_le (y := 8192) (n + k) 8192 (fun z => (by omega)) (fun _ => ⟨rfl, f_fails1 ⟨fun z => absurd z (by decide), fun _ => H _ ?_⟩⟩)
  exact ⟨(th_kc h 0).tr (th_kc _ 2), th_0 _ _, th_IR 2 (th_IR 0 ir)⟩
theorem ovl_stop {j i : Nat} (hi : tx.length ≤ j + i) : ovl tx j (i + 1) = ovl tx j i := by
  show ovl tx j i ||| ((nI (tx.getD (j + i) 0)).toInt64 <<< (Int32.toInt64 (nI (8 * i)) &&& 63)) = _
  rw [List.getD_eq_getElem?_getD, List.getElem?_eq_none hi]
  show ovl tx j i ||| ((nI 0).toInt64 <<< (Int32.toInt64 (nI (8 * i)) &&& 63)) = _
  have e : ((nI 0).toInt64 <<< (Int32.toInt64 (nI (8 * i)) &&& 63)) = 0 := by
    apply wb_inj
    rw [Int64.toBitVec_shiftLeft]
    show (0#64) <<< _ = 0#64
    simp
  rw [e]
  apply wb_inj
  rw [Int64.toBitVec_or]
  show (ovl tx j i).toBitVec ||| 0#64 = _
  simp
theorem ovl_end {j i : Nat} (hi : tx.length ≤ j + i) : ∀ e, ovl tx j (i + e) = ovl tx j i
  | 0 => rfl
  | e + 1 => by rw [show i + (e + 1) = (i + e) + 1 by omega, ovl_stop (by omega), ovl_end hi e]
theorem f_out {y : Int32} {j : Nat} {f : Int64 → sx_H → Prop} (ir : IR h n t tx er pl M I O A L OU G) (hy : y = nI j) (hj : j < tx.length) (H : ∀ h', PR h h' 0 n t tx er pl M I O A L OU G → f (ovl tx j 8) h') :
    sx_X sx_w 120 0 [some (.ref 40), some (.int y), none, none, none] [] h (sx_ql f) := by
  subst hy
  have pr := th_PR 0 ir
  have rt := pr.2.2.2.1
  have hl := rt.2.1
  have key : ∀ (e i : Nat), i + e = 8 → sx_X sx_w 120 32 [some (.ref 40), some (.int (nI j)), some (.long (ovl tx j i)), none, some (.int (nI i))] [] (th h 0) (sx_ql f) := by
    intro e
    induction e with
    | zero =>
      intro i hi
      refine g_120_32 _ 40 _ _ _ (pk_le (x := 8) 8 i (fun _ => ?_) (fun z => (by omega)))
      rw [show i = 8 by omega]
      exact H _ pr
    | succ e ih =>
      intro i hi
      refine g_120_32 _ 40 _ _ _ (pk_le (x := 8) 8 i (fun z => (by omega)) (fun _ => ⟨rfl, ?_⟩))
      rw [rt.1, nI_add, nI_clamp (n := j + i) (by omega), nI_1, show (8 : Int32) * nI i = nI (8 * i) from nI_mul 8 i]
      refine pk_le tx.length (j + i) (fun z => ?_) (fun z => ⟨rfl, ⟨rfl, vp_in_nI (N := 8192) (by omega) (by decide)⟩, ?_⟩)
      · have := H _ pr
        rw [show 8 = i + (e + 1) by omega, ovl_end z] at this
        exact this
      · rw [show (th h 0).1 (40 + 2) (j + i) = nI (tx.getD (j + i) 0) from rt.2.2 _ z]
        exact ih (i + 1) (by omega)
  refine g_120_0 h 40 _ ⟨fun z => absurd z (nI_pos (by omega)), fun _ => ⟨rfl, ?_⟩⟩
  rw [ir.2.1.1]
  exact pk_lt j tx.length (fun _ => ⟨rfl, f_fails0 ⟨fun _ => key 8 0 rfl, fun z => absurd rfl z⟩⟩) (fun z => (by omega))
theorem f_out_t {y : Int32} {f : Int64 → sx_H → Prop} (ir : IR h n t tx er pl M I O A L OU G) (hno : ¬ (0 ≤ y.toInt ∧ y.toInt < tx.length)) (H : ∀ h', PR h h' 1 n t tx er pl M I O A L OU G → f 0 h') :
    sx_X sx_w 120 0 [some (.ref 40), some (.int y), none, none, none] [] h (sx_ql f) := by
  have hl := ir.2.1.2.1
  refine g_120_0 h 40 _ ⟨fun z => ⟨rfl, f_fails1 ⟨fun z => absurd z (by decide), fun _ => H _ (th_PR 1 ir)⟩⟩, fun z => ⟨rfl, ?_⟩⟩
  obtain ⟨j, hj, rfl⟩ := nI_of z
  rw [nI_toInt hj] at hno
  rw [ir.2.1.1]
  exact pk_lt j tx.length (fun z => (by omega)) (fun _ => ⟨rfl, f_fails1 ⟨fun z => absurd z (by decide), fun _ => H _ (th_PR 1 ir)⟩⟩)
theorem f_literal {w y : Int32} {k : Nat} {f : Int32 → sx_H → Prop} (ir : IR h n t tx er pl M I O A L OU G) (wf' : wf M I O A L OU G) (hy : y = nI k) (hk : k < lcn I O A w) (H : ∀ h', PR h h' 0 n t tx er pl M I O A L OU G → f (nI (lq L OU G w k)) h') :
    sx_X sx_w 111 0 [some (.ref 40), some (.int w), some (.int y), none] [] h (sx_qi f) := by
  subst hy
  obtain ⟨⟨wM, wI, wO, wA⟩, ⟨lL, lO, lG⟩, -⟩ := wf'
  have pr := th_PR 0 ir
  have H' := H _ pr
  have rm := pr.2.2.2.2.2
  have r0 := ir.2.2.2
  have npos : k < 2 ^ 31 → ¬ nI k < 0 := fun hh => nI_pos hh
  unfold lcn at hk
  unfold lq at H'
  by_cases w0 : w = 0
  · subst w0
    rw [if_pos rfl] at hk H'
    have vk : vp_in (nI k) 14 := vp_in_nI (by omega) (by decide)
    refine g_111_0 h 40 _ _ ⟨fun z => absurd rfl z, fun _ => ⟨rfl, f_in (fun _ => ⟨fun z => absurd z (by decide), fun _ => ⟨fun z => absurd z (nI_pos (by omega)), fun _ => ?_⟩⟩) (fun hn => absurd ⟨by decide, by decide⟩ hn)⟩⟩
    rw [r0.1.2.1]
    refine pk_lt k I (fun _ => ⟨rfl, f_fails0 ⟨fun _ => ⟨fun z => absurd rfl z, fun _ => ⟨rfl, ⟨rfl, vk⟩, ?_⟩⟩, fun z => absurd rfl z⟩⟩) (fun z => (by omega))
    rw [nI_clamp (by omega), show (th h 0).1 (40 + 3) k = _ from rm.2.1 k _ (getD_some (d := 0) (by omega))]
    exact H'
  · rw [if_neg w0] at hk H'
    by_cases w1 : w = 1
    · subst w1
      rw [if_pos rfl] at hk H'
      have vk : vp_in (nI k) 300 := vp_in_nI (by omega) (by decide)
      refine g_111_0 h 40 _ _ ⟨fun _ => ⟨fun _ => ⟨rfl, f_in (fun _ => ⟨fun z => absurd z (by decide), fun _ => ⟨fun z => absurd z (nI_pos (by omega)), fun _ => ?_⟩⟩) (fun hn => absurd ⟨by decide, by decide⟩ hn)⟩, fun z => absurd z (by decide)⟩, fun z => absurd z (by decide)⟩
      rw [r0.1.2.2.1]
      refine pk_lt k A (fun _ => ⟨rfl, f_fails0 ⟨fun _ => ⟨fun _ => ⟨fun z => absurd rfl z, fun _ => ⟨rfl, ⟨rfl, vk⟩, ?_⟩⟩, fun z => absurd z (by decide)⟩, fun z => absurd rfl z⟩⟩) (fun z => (by omega))
      rw [nI_clamp (by omega), show (th h 0).1 (40 + 5) k = _ from (rm.2.2.2.1 k _ (getD_some (d := (0, 0, 0)) (by omega))).1]
      exact H'
    · rw [if_neg w1] at hk H'
      by_cases w2 : w = 2
      · subst w2
        rw [if_pos rfl] at hk H'
        have vk : vp_in (nI k) 16 := vp_in_nI (by omega) (by decide)
        refine g_111_0 h 40 _ _ ⟨fun _ => ⟨fun z => absurd rfl z, fun _ => ⟨rfl, f_in (fun _ => ⟨fun z => absurd z (by decide), fun _ => ⟨fun z => absurd z (nI_pos (by omega)), fun _ => ?_⟩⟩) (fun hn => absurd ⟨by decide, by decide⟩ hn)⟩⟩, fun z => absurd z (by decide)⟩
        rw [r0.1.2.2.2]
        refine pk_lt k O (fun _ => ⟨rfl, f_fails0 ⟨fun _ => ⟨fun _ => ⟨fun _ => ⟨fun z => absurd rfl z, fun _ => ⟨rfl, ⟨rfl, vk⟩, ?_⟩⟩, fun z => absurd z (by decide)⟩, fun z => absurd z (by decide)⟩, fun z => absurd rfl z⟩⟩) (fun z => (by omega))
        rw [nI_clamp (by omega), show (th h 0).1 (40 + 4) k = _ from rm.2.2.1 k _ (getD_some (d := 0) (by omega))]
        exact H'
      · rw [if_neg w2] at hk H'
        by_cases w3 : w = 3
        · subst w3
          rw [if_pos rfl] at hk H'
          have vk : vp_in (nI k) 300 := vp_in_nI (by omega) (by decide)
          refine g_111_0 h 40 _ _ ⟨fun _ => ⟨fun _ => ⟨rfl, f_in (fun _ => ⟨fun z => absurd z (by decide), fun _ => ⟨fun z => absurd z (nI_pos (by omega)), fun _ => ?_⟩⟩) (fun hn => absurd ⟨by decide, by decide⟩ hn)⟩, fun z => absurd z (by decide)⟩, fun z => absurd z (by decide)⟩
          rw [r0.1.2.2.1]
          refine pk_lt k A (fun _ => ⟨rfl, f_fails0 ⟨fun _ => ⟨fun _ => ⟨fun _ => ⟨fun _ => ⟨fun z => absurd rfl z, fun _ => ⟨rfl, ⟨rfl, vk⟩, ?_⟩⟩, fun z => absurd z (by decide)⟩, fun z => absurd z (by decide)⟩, fun z => absurd z (by decide)⟩, fun z => absurd rfl z⟩⟩) (fun z => (by omega))
          rw [nI_clamp (by omega), show (th h 0).1 (40 + 6) k = _ from (rm.2.2.2.1 k _ (getD_some (d := (0, 0, 0)) (by omega))).2.1]
          exact H'
        · rw [if_neg w3] at hk H'
          by_cases w4 : w = 4
          · subst w4
            rw [if_pos rfl] at hk
            have vk : vp_in (nI k) 300 := vp_in_nI (by omega) (by decide)
            refine g_111_0 h 40 _ _ ⟨fun _ => ⟨fun _ => ⟨rfl, f_in (fun _ => ⟨fun z => absurd z (by decide), fun _ => ⟨fun z => absurd z (nI_pos (by omega)), fun _ => ?_⟩⟩) (fun hn => absurd ⟨by decide, by decide⟩ hn)⟩, fun z => absurd z (by decide)⟩, fun z => absurd z (by decide)⟩
            rw [r0.1.2.2.1]
            refine pk_lt k A (fun _ => ⟨rfl, f_fails0 ⟨fun _ => ⟨fun _ => ⟨fun _ => ⟨fun _ => ⟨fun _ => ⟨rfl, ⟨rfl, vk⟩, ?_⟩, fun z => absurd z (by decide)⟩, fun z => absurd z (by decide)⟩, fun z => absurd z (by decide)⟩, fun z => absurd z (by decide)⟩, fun z => absurd rfl z⟩⟩) (fun z => (by omega))
            rw [nI_clamp (by omega), show (th h 0).1 (40 + 7) k = _ from (rm.2.2.2.1 k _ (getD_some (d := (0, 0, 0)) (by omega))).2.2]
            exact H'
          · rw [if_neg w4] at hk
            exact absurd hk (Nat.not_lt_zero _)
theorem f_literal_t {w y : Int32} {f : Int32 → sx_H → Prop} (ir : IR h n t tx er pl M I O A L OU G) (wf' : wf M I O A L OU G) (hno : ¬ (0 ≤ y.toInt ∧ y.toInt < lcn I O A w)) (H : ∀ h', PR h h' 1 n t tx er pl M I O A L OU G → f 0 h') :
    sx_X sx_w 111 0 [some (.ref 40), some (.int w), some (.int y), none] [] h (sx_qi f) := by
  obtain ⟨⟨wM, wI, wO, wA⟩, ⟨lL, lO, lG⟩, -⟩ := wf'
  have r0 := ir.2.2.2
  have Ht := H _ (th_PR 1 ir)
  have ylt : ∀ {a : Nat}, a < 2 ^ 31 → (¬ (0 ≤ y.toInt ∧ y.toInt < a)) → ¬ y < 0 → ¬ y < nI a := fun {a} ha hn z z2 => by
    rw [Int32.lt_iff_toInt_lt, nI_toInt ha] at z2
    have := Int.not_lt.mp (fun q => z (ix_lt.mpr q))
    omega
  unfold lcn at hno
  refine g_111_0 h 40 _ _ ⟨fun w0 => ⟨fun w2 => ⟨rfl, f_in (fun hi => ⟨fun z => absurd z (by decide), fun _ => ⟨fun z => ⟨rfl, f_fails1 ⟨fun z => absurd z (by decide), fun _ => Ht⟩⟩, fun z => ⟨fun z2 => ?_, fun _ => ⟨rfl, f_fails1 ⟨fun z => absurd z (by decide), fun _ => Ht⟩⟩⟩⟩⟩) (fun hn => ⟨fun _ => ⟨rfl, f_fails1 ⟨fun z => absurd z (by decide), fun _ => Ht⟩⟩, fun z => absurd rfl z⟩)⟩, fun w2 => ⟨rfl, f_in (fun hi => ⟨fun z => absurd z (by decide), fun _ => ⟨fun z => ⟨rfl, f_fails1 ⟨fun z => absurd z (by decide), fun _ => Ht⟩⟩, fun z => ⟨fun z2 => ?_, fun _ => ⟨rfl, f_fails1 ⟨fun z => absurd z (by decide), fun _ => Ht⟩⟩⟩⟩⟩) (fun hn => ⟨fun _ => ⟨rfl, f_fails1 ⟨fun z => absurd z (by decide), fun _ => Ht⟩⟩, fun z => absurd rfl z⟩)⟩⟩, fun w0 => ⟨rfl, f_in (fun hi => ⟨fun z => absurd z (by decide), fun _ => ⟨fun z => ⟨rfl, f_fails1 ⟨fun z => absurd z (by decide), fun _ => Ht⟩⟩, fun z => ⟨fun z2 => ?_, fun _ => ⟨rfl, f_fails1 ⟨fun z => absurd z (by decide), fun _ => Ht⟩⟩⟩⟩⟩) (fun hn => ⟨fun _ => ⟨rfl, f_fails1 ⟨fun z => absurd z (by decide), fun _ => Ht⟩⟩, fun z => absurd rfl z⟩)⟩⟩
  · exfalso
    rw [r0.1.2.2.1] at z2
    refine ylt (by omega) ?_ z z2
    obtain ⟨a, b⟩ := (in_of (b := 4) (by decide)).mp hi
    obtain ⟨j, hj, e⟩ := nI_of2 (n := 4) (M := 4) rfl (fun q => by have := ix_lt.mp q; omega) hi.2
    rw [if_neg w0, if_neg w2] at hno
    by_cases w1 : w = 1
    · rw [if_pos w1] at hno; exact hno
    · rw [if_neg w1] at hno
      by_cases w3 : w = 3
      · rw [if_pos w3] at hno; exact hno
      · rw [if_neg w3] at hno
        by_cases w4 : w = 4
        · rw [if_pos w4] at hno; exact hno
        · exfalso
          have cs : j = 0 ∨ j = 1 ∨ j = 2 ∨ j = 3 ∨ j = 4 := by omega
          rcases cs with q | q | q | q | q
          · rw [q] at e; exact w0 e
          · rw [q] at e; exact w1 e
          · rw [q] at e; exact w2 e
          · rw [q] at e; exact w3 e
          · rw [q] at e; exact w4 e
  · exfalso
    rw [r0.1.2.2.2] at z2
    rw [if_neg w0, w2, if_neg (by decide), if_pos rfl] at hno
    exact ylt (by omega) hno z z2
  · exfalso
    rw [r0.1.2.1] at z2
    rw [if_pos w0] at hno
    exact ylt (by omega) hno z z2
