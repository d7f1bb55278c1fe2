theorem sx_ofI_toInt {a : Int} (h1 : -2147483648 ≤ a) (h2 : a ≤ 2147483647) : (Int32.ofInt a).toInt = a := by
  rw [Int32.toInt_ofInt]
  show a.bmod 4294967296 = a
  rw [Int.bmod_eq_of_le (by omega) (by omega)]
theorem sx_sw_tab {x : Int32} {pc : Nat} {dflt : Int} {f : Nat → Prop} : ∀ {offs : List Int} {lo : Int}, -2147483648 ≤ lo → lo + offs.length ≤ 2147483648 → sx_sw x pc dflt f (sx_tabP lo offs) →
    ((x.toInt < lo ∨ lo + offs.length ≤ x.toInt) → sx_jmp pc dflt f) ∧ ∀ (k : Nat) (o : Int), offs[k]? = some o → x.toInt = lo + k → sx_jmp pc o f
  | [], lo, h1, h2, H => ⟨fun _ => H, fun k o hk => by cases hk⟩
  | o0 :: r, lo, h1, h2, H => by
    simp only [List.length_cons] at h2 ⊢
    have hlo : (Int32.ofInt lo).toInt = lo := sx_ofI_toInt h1 (by omega)
    by_cases hx : x = Int32.ofInt lo
    · have hxt : x.toInt = lo := by rw [hx, hlo]
      refine ⟨fun q => by omega, fun k o hk hxk => ?_⟩
      have : k = 0 := by omega
      subst this
      cases hk
      exact H.1 hx
    · have hxt : ¬ x.toInt = lo := fun q => hx (Int32.toInt_inj.mp (by rw [hlo]; exact q))
      obtain ⟨a, b⟩ := sx_sw_tab (offs := r) (lo := lo + 1) (by omega) (by omega) (H.2 hx)
      refine ⟨fun q => a (by omega), fun k o hk hxk => ?_⟩
      match k, hk with
      | 0, hk => exact absurd (by omega) hxt
      | k + 1, hk => exact b k o hk (by omega)
theorem sx_sw_look {x : Int32} {pc : Nat} {dflt : Int} {f : Nat → Prop} : ∀ {ps : List (Int × Int)}, ps.all (fun p => decide (-2147483648 ≤ p.1 ∧ p.1 ≤ 2147483647)) = true → sx_sw x pc dflt f ps → sx_jmp pc (Op.lookupswitch.offset ps dflt x.toInt) f
  | [], _, H => H
  | (a, o) :: r, hp, H => by
    rw [List.all_cons, Bool.and_eq_true, decide_eq_true_eq] at hp
    have ha : (Int32.ofInt a).toInt = a := sx_ofI_toInt hp.1.1 hp.1.2
    rw [Op.lookupswitch.offset_cons]
    by_cases hx : x = Int32.ofInt a
    · rw [if_pos (by rw [hx, ha])]
      exact H.1 hx
    · rw [if_neg (fun q => hx (Int32.toInt_inj.mp (by rw [ha]; exact q.symm)))]
      exact sx_sw_look hp.2 (H.2 hx)
theorem sx_tf0 {t : FieldType} {b : Bool} (q : sx_tf t 0 b = true) : t = .int := by cases t <;> first | rfl | simp [sx_tf] at q
theorem sx_tf1 {t : FieldType} {b : Bool} (q : sx_tf t 1 b = true) : t = .long := by cases t <;> first | rfl | simp [sx_tf] at q
theorem sx_tf2 {t : FieldType} {b : Bool} (q : sx_tf t 2 b = true) : ∃ n, t = .object n := by cases t <;> first | exact ⟨_, rfl⟩ | simp [sx_tf] at q
theorem sx_tfn {n : Nat} (hn : n < 3) (t : FieldType) : sx_tf t n true = false := by
  match n, hn with
  | 0, _ => cases t <;> rfl
  | 1, _ => cases t <;> rfl
  | 2, _ => cases t <;> rfl
/-- what is still owed at a throw -/
def sx_newOk (l : Launch) (sh : sx_S) : Prop := ∀ j pc lv h (Q : sx_Q) i len k, sx_code j pc = some (.new i, len) → sx_thr j i = some k → sh.2 = false → Q (some (.retAddr k)) h → sx_sem l sh j pc lv [] h Q
set_option maxHeartbeats 8000000 in
theorem sx_sem_clos (l : Launch) (sh : sx_S) (hnew : sx_newOk l sh) : sx_clos sh (sx_sem l sh) := by
  intro j pc lv st h Q ins len hd HH D cI cJ cZ r p e s m args below meth c Hp locs ls hctx hinj hK hP hlo hS
  have hctx' := hctx
  obtain ⟨hx, hb, hr, hml, hown, hts, hlk, -⟩ := hctx
  have hdg := sx_dec hd
  have go : ∀ {pc' : Nat} {l' : sx_L} {st' : List Value} {ls' : Array Slot}, sx_sem l sh j pc' l' st' h Q → sx_lo r (sx_ml j) ls' l' → W p l e (sx_rm j) s m args below meth c Hp locs 0 0 (sx_Z j D cI cJ cZ r sh Q below args s) (F0 m pc' ls' (st'.map (sx_v r))) :=
    fun K hl => K D cI cJ cZ r p e s m args below meth c Hp locs _ hctx' hinj hK hP hl hS
  have goH : ∀ {pc' : Nat} {st' : List Value} {h' : sx_H} {H1 : Heap} {locs1 : List Loc}, sx_sem l sh j pc' lv st' h' Q → sx_P D cI cJ cZ r sh h' H1 → va_S (sx_A r sh s.heap.size) s.heap H1 locs1 → W p l e (sx_rm j) s m args below meth c H1 locs1 0 0 (sx_Z j D cI cJ cZ r sh Q below args s) (F0 m pc' ls (st'.map (sx_v r))) :=
    fun K hp hs => K D cI cJ cZ r p e s m args below meth c _ _ _ hctx' hinj hK hp hlo hs
  have hF : va_F (sx_A r sh s.heap.size) s = va_F (sx_A r sh s.heap.size) s := rfl
  have endW : ∀ {v : Option Value}, sx_nr v → Q v h → ∀ t : State, t.heap = Hp → s.WarmedH t.vm → sx_Qc D cI cJ cZ r sh Q args s (.returned (v.map (sx_v r))) t := fun hn hq t ht _ => ⟨⟨_, h, hq, rfl, by rw [ht]; exact hP, hn⟩, hS.F ht⟩
  have fin : ∀ {g : JFrame}, W p l e (sx_rm j) s m args below meth c Hp locs (sx_rc j) (6 * sx_rc j) (MQ below (sx_Qc D cI cJ cZ r sh Q) args s (sx_rc j) (6 * sx_rc j) (sx_A r sh s.heap.size)) g → W p l e (sx_rm j) s m args below meth c Hp locs 0 0 (sx_Z j D cI cJ cZ r sh Q below args s) g := fun k => W.widen (Nat.zero_le _) (Nat.zero_le _) (sx_W_m (fun t ht => Or.inl ht) k)
  cases ins with
  | iconst n => exact lv_iconst hx hb hdg rfl (go HH hlo)
  | bipush n => exact lv_bipush hx hb hdg rfl (go HH hlo)
  | sipush n => exact lv_sipush hx hb hdg rfl (go HH hlo)
  | lconst n => exact lv_lconst hx hb hdg rfl (go HH hlo)
  | ldc i =>
    simp only [sx_ins] at HH
    split at HH
    · rename_i v hv
      unfold sx_cst at hv
      obtain ⟨⟨v', ps⟩, hv1, hv2⟩ := Option.map_eq_some_iff.mp hv
      cases hv2
      have hj : j < sx_nM := sx_lt_of rfl hv1
      have h1 := sx_all sx_cst_ok hj
      unfold sx_kck at h1
      rw [Bool.and_eq_true] at h1
      exact lv_ldc hx hb hown (hts _ (sx_in_mem (List.all_eq_true.mp h1.1 _ (sx_fnd_mem hv1)))) hdg (go HH hlo)
    · exact HH.elim
  | ldc2_w i =>
    simp only [sx_ins] at HH
    split at HH
    · rename_i v hv
      unfold sx_csl at hv
      obtain ⟨⟨v', ps⟩, hv1, hv2⟩ := Option.map_eq_some_iff.mp hv
      cases hv2
      have hj : j < sx_nM := sx_lt_of rfl hv1
      have h1 := sx_all sx_cst_ok hj
      unfold sx_kck at h1
      rw [Bool.and_eq_true] at h1
      exact lv_ldc2 hx hb hown (hts _ (sx_in_mem (List.all_eq_true.mp h1.2 _ (sx_fnd_mem hv1)))) hdg (go HH hlo)
    · exact HH.elim
  | iload i => obtain ⟨x, hl, HH⟩ := sx_gi_e HH; exact lv_iload hx hb hdg (hlo.2.2.2 _ _ hl) (go HH hlo)
  | iload_n i => obtain ⟨x, hl, HH⟩ := sx_gi_e HH; exact lv_iload_n hx hb hdg rfl (hlo.2.2.2 _ _ hl) (go HH hlo)
  | lload i => obtain ⟨x, hl, HH⟩ := sx_gl_e HH; exact lv_lload hx hb hdg (hlo.2.2.2 _ _ hl) (go HH hlo)
  | lload_n i => obtain ⟨x, hl, HH⟩ := sx_gl_e HH; exact lv_lload_n hx hb hdg rfl (hlo.2.2.2 _ _ hl) (go HH hlo)
  | aload i => obtain ⟨x, hl, HH⟩ := sx_ga_e HH; exact lv_aload hx hb hdg (hlo.2.2.2 _ _ hl) (go HH hlo)
  | aload_n i => obtain ⟨x, hl, HH⟩ := sx_ga_e HH; exact lv_aload_n hx hb hdg rfl (hlo.2.2.2 _ _ hl) (go HH hlo)
  | istore i =>
    obtain ⟨x, t, rfl, HH⟩ := sx_i1_e HH
    obtain ⟨hi, HH⟩ := sx_cond_e HH
    have hi := Nat.le_of_ble_eq_true hi
    exact lv_istore hx hb hdg (sx_lo_has hlo) hi rfl (fun ls' h' => go HH (sx_lo_s1 (v := .int x) hlo hi h'))
  | istore_n i =>
    obtain ⟨x, t, rfl, HH⟩ := sx_i1_e HH
    obtain ⟨hi, HH⟩ := sx_cond_e HH
    have hi := Nat.le_of_ble_eq_true hi
    exact lv_istore_n hx hb hdg rfl (sx_lo_has hlo) hi rfl (fun ls' h' => go HH (sx_lo_s1 (v := .int x) hlo hi h'))
  | lstore i =>
    obtain ⟨x, t, rfl, HH⟩ := sx_l1_e HH
    obtain ⟨hi, HH⟩ := sx_cond_e HH
    have hi := Nat.le_of_ble_eq_true hi
    exact lv_lstore hx hb hdg (sx_lo_has hlo) hi rfl (fun ls' h' => go HH (sx_lo_s2 (v := .long x) hlo hi h'))
  | lstore_n i =>
    obtain ⟨x, t, rfl, HH⟩ := sx_l1_e HH
    obtain ⟨hi, HH⟩ := sx_cond_e HH
    have hi := Nat.le_of_ble_eq_true hi
    exact lv_lstore_n hx hb hdg rfl (sx_lo_has hlo) hi rfl (fun ls' h' => go HH (sx_lo_s2 (v := .long x) hlo hi h'))
  | astore i =>
    obtain ⟨x, t, rfl, HH⟩ := sx_r1_e HH
    obtain ⟨hi, HH⟩ := sx_cond_e HH
    have hi := Nat.le_of_ble_eq_true hi
    exact lv_astore hx hb hdg (sx_lo_has hlo) hi rfl (fun ls' h' => go HH (sx_lo_s1 (v := .ref x) hlo hi h'))
  | astore_n i =>
    obtain ⟨x, t, rfl, HH⟩ := sx_r1_e HH
    obtain ⟨hi, HH⟩ := sx_cond_e HH
    have hi := Nat.le_of_ble_eq_true hi
    exact lv_astore_n hx hb hdg rfl (sx_lo_has hlo) hi rfl (fun ls' h' => go HH (sx_lo_s1 (v := .ref x) hlo hi h'))
  | iinc i n =>
    obtain ⟨x, hl, HH⟩ := sx_gi_e HH
    obtain ⟨hi, HH⟩ := sx_cond_e HH
    have hi := Nat.le_of_ble_eq_true hi
    obtain ⟨k, hk⟩ := List.getElem?_of_mem (sx_al_in (r := r) hl)
    exact lv_iinc hx hb hdg (sx_lo_has hlo) (k := k) hk rfl hi rfl (fun ls' h' => go HH (sx_lo_s1 (v := .int (x + Int32.ofInt n)) hlo hi h'))
  | iadd => obtain ⟨x, y, t, rfl, HH⟩ := sx_i2_e HH; exact lv_iadd hx hb hdg (go HH hlo)
  | isub => obtain ⟨x, y, t, rfl, HH⟩ := sx_i2_e HH; exact lv_isub hx hb hdg (go HH hlo)
  | imul => obtain ⟨x, y, t, rfl, HH⟩ := sx_i2_e HH; exact lv_imul hx hb hdg (go HH hlo)
  | iand => obtain ⟨x, y, t, rfl, HH⟩ := sx_i2_e HH; exact lv_iand hx hb hdg (go HH hlo)
  | ior => obtain ⟨x, y, t, rfl, HH⟩ := sx_i2_e HH; exact lv_ior hx hb hdg (go HH hlo)
  | ixor => obtain ⟨x, y, t, rfl, HH⟩ := sx_i2_e HH; exact lv_ixor hx hb hdg (go HH hlo)
  | ishl => obtain ⟨x, y, t, rfl, HH⟩ := sx_i2_e HH; exact lv_ishl hx hb hdg (go HH hlo)
  | ishr => obtain ⟨x, y, t, rfl, HH⟩ := sx_i2_e HH; exact lv_ishr hx hb hdg (go HH hlo)
  | iushr => obtain ⟨x, y, t, rfl, HH⟩ := sx_i2_e HH; exact lv_iushr hx hb hdg rfl (go HH hlo)
  | idiv => obtain ⟨x, y, t, rfl, hne, HH⟩ := sx_i2_e HH; exact lv_idiv hx hb hdg hne (go HH hlo)
  | irem => obtain ⟨x, y, t, rfl, hne, HH⟩ := sx_i2_e HH; exact lv_irem hx hb hdg hne (go HH hlo)
  | ineg => obtain ⟨x, t, rfl, HH⟩ := sx_i1_e HH; exact lv_ineg hx hb hdg (go HH hlo)
  | ladd => obtain ⟨x, y, t, rfl, HH⟩ := sx_l2_e HH; exact lv_ladd hx hb hdg (go HH hlo)
  | lsub => obtain ⟨x, y, t, rfl, HH⟩ := sx_l2_e HH; exact lv_lsub hx hb hdg (go HH hlo)
  | land => obtain ⟨x, y, t, rfl, HH⟩ := sx_l2_e HH; exact lv_land hx hb hdg (go HH hlo)
  | lor => obtain ⟨x, y, t, rfl, HH⟩ := sx_l2_e HH; exact lv_lor hx hb hdg (go HH hlo)
  | lxor => obtain ⟨x, y, t, rfl, HH⟩ := sx_l2_e HH; exact lv_lxor hx hb hdg (go HH hlo)
  | lshl => obtain ⟨x, y, t, rfl, HH⟩ := sx_li_e HH; exact lv_lshl hx hb hdg rfl (go HH hlo)
  | lshr => obtain ⟨x, y, t, rfl, HH⟩ := sx_li_e HH; exact lv_lshr hx hb hdg rfl (go HH hlo)
  | lushr => obtain ⟨x, y, t, rfl, HH⟩ := sx_li_e HH; exact lv_lushr hx hb hdg rfl (go HH hlo)
  | lcmp => obtain ⟨x, y, t, rfl, HH⟩ := sx_l2_e HH; exact W.lcmp hx hb hdg (go HH hlo)
  | i2l => obtain ⟨x, t, rfl, HH⟩ := sx_i1_e HH; exact lv_i2l hx hb hdg rfl (go HH hlo)
  | l2i => obtain ⟨x, t, rfl, HH⟩ := sx_l1_e HH; exact lv_l2i hx hb hdg rfl (go HH hlo)
  | i2b => obtain ⟨x, t, rfl, HH⟩ := sx_i1_e HH; exact lv_i2b hx hb hdg rfl (go HH hlo)
  | dup =>
    simp only [sx_ins] at HH
    split at HH
    · exact lv_dup hx hb hdg rfl (go HH hlo)
    · exact lv_dup hx hb hdg rfl (go HH hlo)
    · exact HH.elim
  | dup2 =>
    simp only [sx_ins] at HH
    split at HH
    · exact lv_dup2_11 hx hb hdg rfl rfl (go HH hlo)
    · exact lv_dup2_11 hx hb hdg rfl rfl (go HH hlo)
    · exact lv_dup2_2 hx hb hdg rfl (go HH hlo)
    · exact HH.elim
  | dup_x1 =>
    simp only [sx_ins] at HH
    split at HH
    · exact lv_dup_x1 hx hb hdg rfl rfl (go HH hlo)
    · exact lv_dup_x1 hx hb hdg rfl rfl (go HH hlo)
    · exact HH.elim
  | dup_x2 =>
    simp only [sx_ins] at HH
    split at HH
    · exact lv_dup_x2 hx hb hdg rfl rfl rfl (go HH hlo)
    · exact HH.elim
  | pop =>
    simp only [sx_ins] at HH
    split at HH
    · exact lv_pop hx hb hdg rfl (go HH hlo)
    · exact lv_pop hx hb hdg rfl (go HH hlo)
    · exact HH.elim
  | pop2 =>
    simp only [sx_ins] at HH
    split at HH
    · exact lv_pop2_2 hx hb hdg rfl (go HH hlo)
    · exact HH.elim
  | goto off => obtain ⟨t, ht, HH⟩ := sx_jmp_e HH; exact lv_goto hx hb hdg ht (go HH hlo)
  | ifCond cd off =>
    obtain ⟨x, t, rfl, HH⟩ := sx_i1_e HH
    obtain ⟨q, ht, HH⟩ := sx_jmp_e HH
    cases cd with
    | eq => exact lv_if_eq hx hb hdg ht (fun z => go (HH.1 z) hlo) (fun z => go (HH.2 z) hlo)
    | ne => exact lv_if_ne hx hb hdg ht (fun z => go (HH.1 z) hlo) (fun z => go (HH.2 z) hlo)
    | lt => exact lv_if_lt hx hb hdg ht (fun z => go (HH.1 z) hlo) (fun z => go (HH.2 z) hlo)
    | ge => exact lv_if_ge hx hb hdg ht (fun z => go (HH.1 z) hlo) (fun z => go (HH.2 z) hlo)
    | gt => exact lv_if_gt hx hb hdg ht (fun z => go (HH.1 z) hlo) (fun z => go (HH.2 z) hlo)
    | le => exact lv_if_le hx hb hdg ht (fun z => go (HH.1 z) hlo) (fun z => go (HH.2 z) hlo)
  | if_icmp cd off =>
    obtain ⟨x, y, t, rfl, HH⟩ := sx_i2_e HH
    obtain ⟨q, ht, HH⟩ := sx_jmp_e HH
    cases cd with
    | eq => exact lv_icmp_eq hx hb hdg ht (fun z => go (HH.1 z) hlo) (fun z => go (HH.2 z) hlo)
    | ne => exact lv_icmp_ne hx hb hdg ht (fun z => go (HH.1 z) hlo) (fun z => go (HH.2 z) hlo)
    | lt => exact lv_icmp_lt hx hb hdg ht (fun z => go (HH.1 z) hlo) (fun z => go (HH.2 z) hlo)
    | ge => exact lv_icmp_ge hx hb hdg ht (fun z => go (HH.1 z) hlo) (fun z => go (HH.2 z) hlo)
    | gt => exact lv_icmp_gt hx hb hdg ht (fun z => go (HH.1 z) hlo) (fun z => go (HH.2 z) hlo)
    | le => exact lv_icmp_le hx hb hdg ht (fun z => go (HH.1 z) hlo) (fun z => go (HH.2 z) hlo)
  | tableswitch d lo hi offs =>
    obtain ⟨hok, HH⟩ := sx_cond_e HH
    obtain ⟨x, t, rfl, HH⟩ := sx_i1_e HH
    unfold sx_tabOk at hok
    have hok := of_decide_eq_true hok
    obtain ⟨a, b⟩ := sx_sw_tab (offs := offs.toList) (lo := lo) (by omega) (by omega) HH
    by_cases hlt : x.toInt < lo
    · obtain ⟨q, hq, K⟩ := sx_jmp_e (a (Or.inl hlt))
      exact lv_tableOut hx hb hdg (Or.inl hlt) hq (go K hlo)
    · by_cases hgt : hi < x.toInt
      · obtain ⟨q, hq, K⟩ := sx_jmp_e (a (Or.inr (by omega)))
        exact lv_tableOut hx hb hdg (Or.inr hgt) hq (go K hlo)
      · have hk : (x.toInt - lo).toNat < offs.toList.length := by omega
        have ho : offs.toList[(x.toInt - lo).toNat]? = some (offs.toList[(x.toInt - lo).toNat]) := List.getElem?_eq_getElem hk
        obtain ⟨q, hq, K⟩ := sx_jmp_e (b _ _ ho (by omega))
        exact lv_tableIn hx hb hdg hlt hgt (by rw [← Array.getElem?_toList]; exact ho) hq (go K hlo)
  | lookupswitch d ps =>
    obtain ⟨hok, HH⟩ := sx_cond_e HH
    obtain ⟨x, t, rfl, HH⟩ := sx_i1_e HH
    unfold sx_lookOk at hok
    rw [Bool.and_eq_true] at hok
    obtain ⟨q, hq, K⟩ := sx_jmp_e (sx_sw_look hok.2 HH)
    exact lv_lookup hx hb hdg hok.1 rfl hq (go K hlo)
  | getfield i =>
    simp only [sx_ins] at HH
    split at HH
    · rename_i en hf
      obtain ⟨ci, k, ps⟩ := en
      obtain ⟨a, t, rfl, ha, HH⟩ := sx_r1_e HH
      exact sx_getW hctx' hK hP hf ha hdg (go HH hlo)
    · exact HH.elim
  | putfield i =>
    simp only [sx_ins] at HH
    split at HH
    · rename_i en hf
      obtain ⟨ci, k, ps⟩ := en
      split at HH
      · rename_i hft
        obtain ⟨x, a, t, rfl, ⟨hw, ha⟩, HH⟩ := sx_ir_e HH
        have hft : sx_ft ci k = 0 := hft
        refine sx_putW (v := .int x) (h' := (sx_u h.1 a k x, h.2)) hctx' hinj hK hP hS hf hw ha hdg (fun t _ b hb => ?_) (fun t => by rw [hft]; exact sx_tfn (by omega) t) (fun b hb => ⟨sx_u_ne hb, rfl, rfl⟩) ?_ (fun z hz => ?_) (fun H1 locs1 hp hs => goH HH hp hs)
        · rw [hft] at hb; cases sx_tf0 hb; exact ⟨rfl, rfl⟩
        · unfold sx_fv
          rw [hft]
          show Value.int (sx_u h.1 a k x a k) = _
          rw [sx_u_eq, va_up_self]
        · unfold sx_fv
          show (match sx_ft ci z with | 0 => Value.int (sx_u h.1 a k x a z) | 1 => _ | 2 => _ | d + 3 => _) = _
          rw [sx_u_eq, va_up_ne _ _ hz] <;> rfl
      · rename_i hft
        obtain ⟨x, a, t, rfl, ⟨hw, ha⟩, HH⟩ := sx_lr'_e HH
        have hft : sx_ft ci k = 1 := hft
        refine sx_putW (v := .long x) (h' := (h.1, sx_u h.2.1 a k x, h.2.2)) hctx' hinj hK hP hS hf hw ha hdg (fun t _ b hb => ?_) (fun t => by rw [hft]; exact sx_tfn (by omega) t) (fun b hb => ⟨rfl, sx_u_ne hb, rfl⟩) ?_ (fun z hz => ?_) (fun H1 locs1 hp hs => goH HH hp hs)
        · rw [hft] at hb; cases sx_tf1 hb; exact ⟨rfl, rfl⟩
        · unfold sx_fv
          rw [hft]
          show Value.long (sx_u h.2.1 a k x a k) = _
          rw [sx_u_eq, va_up_self]
        · unfold sx_fv
          show (match sx_ft ci z with | 0 => _ | 1 => Value.long (sx_u h.2.1 a k x a z) | 2 => _ | d + 3 => _) = _
          rw [sx_u_eq, va_up_ne _ _ hz] <;> rfl
      · rename_i hft
        obtain ⟨x, a, t, rfl, ⟨hw, ha⟩, HH⟩ := sx_rr_e HH
        have hft : sx_ft ci k = 2 := hft
        refine sx_putW (v := .ref (r x)) (h' := (h.1, h.2.1, sx_u h.2.2 a k x)) hctx' hinj hK hP hS hf hw ha hdg (fun t _ b hb => ?_) (fun t => by rw [hft]; exact sx_tfn (by omega) t) (fun b hb => ⟨rfl, rfl, sx_u_ne hb⟩) ?_ (fun z hz => ?_) (fun H1 locs1 hp hs => goH HH hp hs)
        · rw [hft] at hb; obtain ⟨n, rfl⟩ := sx_tf2 hb; exact ⟨rfl, rfl⟩
        · unfold sx_fv
          rw [hft]
          show Value.ref (r (sx_u h.2.2 a k x a k)) = _
          rw [sx_u_eq, va_up_self]
        · unfold sx_fv
          show (match sx_ft ci z with | 0 => _ | 1 => _ | 2 => Value.ref (sx_u h.2.2 a k x a z) | d + 3 => _) = _
          rw [sx_u_eq, va_up_ne _ _ hz] <;> rfl
      · exact HH.elim
    · exact HH.elim
  | iaload =>
    obtain ⟨i, a, t, rfl, ⟨ha, hin⟩, HH⟩ := sx_ir_e HH
    exact W.iald hx hb (sx_at_i (hP a) ha) (sx_arrI hK _ _) (fun q => by cases q) (sx_within hin) (sx_rd hin) rfl rfl hdg (go HH hlo)
  | laload =>
    obtain ⟨i, a, t, rfl, ⟨ha, hin⟩, HH⟩ := sx_ir_e HH
    exact W.lald hx hb (sx_at_l (hP a) ha) (sx_arrJ hK _ _) (fun q => by cases q) (sx_within hin) (sx_rd hin) rfl rfl hdg (go HH hlo)
  | baload =>
    obtain ⟨i, a, t, rfl, ⟨ha, hin⟩, HH⟩ := sx_ir_e HH
    exact W.zald hx hb (sx_at_z (hP a) ha) (sx_arrZ hK _ _) (fun q => by cases q) (sx_within hin) (sx_rd hin) rfl rfl hdg (go HH hlo)
  | iastore =>
    obtain ⟨x, i, a, t, rfl, ⟨hw, ha, hin⟩, HH⟩ := sx_iir_e HH
    refine W.iast hx hb (sx_at_i (hP a) ha) (sx_arrI hK _ _) (fun q => by cases q) (sx_within hin) rfl rfl hdg fun H1 e1 z oq => ?_
    obtain ⟨hp, hs⟩ := sx_astW (k := i.toNatClampNeg) (h' := (sx_u h.1 a i.toNatClampNeg x, h.2)) hinj hP hS hw (by rw [ha]; decide) z oq (fun b hb => ⟨sx_u_ne hb, rfl, rfl⟩) (sx_at_iI ha (by
      rw [e1, arrV_store]
      congr 2
      funext q
      show updV _ _ _ q = Value.int (sx_u h.1 a i.toNatClampNeg x a q)
      rw [sx_u_eq]
      unfold updV va_up
      split <;> rfl))
    exact goH HH hp hs
  | lastore =>
    obtain ⟨x, i, a, t, rfl, ⟨hw, ha, hin⟩, HH⟩ := sx_lir_e HH
    refine W.last hx hb (sx_at_l (hP a) ha) (sx_arrJ hK _ _) (fun q => by cases q) (sx_within hin) rfl rfl hdg fun H1 e1 z oq => ?_
    obtain ⟨hp, hs⟩ := sx_astW (k := i.toNatClampNeg) (h' := (h.1, sx_u h.2.1 a i.toNatClampNeg x, h.2.2)) hinj hP hS hw (by rw [ha]; decide) z oq (fun b hb => ⟨rfl, sx_u_ne hb, rfl⟩) (sx_at_lI ha (by
      rw [e1, arrV_store]
      congr 2
      funext q
      show updV _ _ _ q = Value.long (sx_u h.2.1 a i.toNatClampNeg x a q)
      rw [sx_u_eq]
      unfold updV va_up
      split <;> rfl))
    exact goH HH hp hs
  | bastore =>
    obtain ⟨x, i, a, t, rfl, ⟨⟨hw, ha, hin⟩, h01⟩, HH⟩ := sx_iir_e HH
    refine W.zast hx hb (sx_at_z (hP a) ha) (sx_arrZ hK _ _) (fun q => by cases q) (sx_within hin) rfl rfl hdg fun H1 e1 z oq => ?_
    obtain ⟨hp, hs⟩ := sx_astW (k := i.toNatClampNeg) (h' := (sx_u h.1 a i.toNatClampNeg x, h.2)) hinj hP hS hw (by rw [ha]; decide) z oq (fun b hb => ⟨sx_u_ne hb, rfl, rfl⟩) (sx_at_zI ha (by
      have hn : narrow .boolean (.int x) = .int x := by rcases h01 with rfl | rfl <;> rfl
      rw [e1, arrV_store, hn]
      congr 2
      funext q
      show updV _ _ _ q = Value.int (sx_u h.1 a i.toNatClampNeg x a q)
      rw [sx_u_eq]
      unfold updV va_up
      split <;> rfl))
    exact goH HH hp hs
  | arraylength =>
    obtain ⟨a, t, rfl, ha, HH⟩ := sx_r1_e HH
    rcases ha with ha | ha
    · exact W.alen (n := Int32.ofNat (sh.1 a).2) hx hb (sx_at_i (hP a) ha) (sx_arrI hK _ _) (by rw [arrV_size] <;> rfl) rfl rfl hdg (go HH hlo)
    · exact W.alen (n := Int32.ofNat (sh.1 a).2) hx hb (sx_at_l (hP a) ha) (sx_arrJ hK _ _) (by rw [arrV_size] <;> rfl) rfl rfl hdg (go HH hlo)
  | invokestatic i =>
    simp only [sx_ins] at HH
    split at HH
    · rename_i en hc
      obtain ⟨hk, HH⟩ := sx_cond_e HH
      exact sx_callW hctx' hinj hK hP hlo hS hc (Or.inl ⟨Nat.le_of_ble_eq_true hk, hdg⟩) HH
    · exact HH.elim
  | invokevirtual i =>
    simp only [sx_ins] at HH
    split at HH
    · rename_i en hc
      obtain ⟨hk, HH⟩ := sx_cond_e HH
      exact sx_callW hctx' hinj hK hP hlo hS hc (Or.inr ⟨Nat.eq_of_beq_eq_true hk, hdg⟩) HH
    · exact HH.elim
  | new i =>
    simp only [sx_ins] at HH
    split at HH
    · rename_i k hk
      split at HH
      · exact hnew j pc lv h Q i len k hd hk HH.1 HH.2 D cI cJ cZ r p e s m args below meth c Hp locs ls hctx' hinj hK hP hlo hS
      · exact HH.elim
    · exact HH.elim
  | ireturn =>
    simp only [sx_ins] at HH
    split at HH
    · split at HH
      · rename_i hrt
        exact fin (W.iret hx hb (by rw [hr]; exact hrt) (endW (fun k q => by cases q) HH) hS.2.2 hdg hlk)
      · rename_i x hrt
        exact fin (W.zret hx hb (by rw [hr]; exact hrt) (by rcases HH.1 with h1 | h1 <;> rw [h1] <;> rfl) (endW (fun k q => by cases q) HH.2) hS.2.2 hdg hlk)
      · exact HH.elim
    · exact HH.elim
  | lreturn =>
    simp only [sx_ins] at HH
    split at HH
    · split at HH
      · rename_i hrt
        exact fin (W.lret hx hb (by rw [hr]; exact hrt) (endW (fun k q => by cases q) HH) hS.2.2 hdg hlk)
      · exact HH.elim
    · exact HH.elim
  | areturn =>
    simp only [sx_ins] at HH
    split at HH
    · split at HH
      · rename_i hrt
        exact fin (W.aret hx hb (by rw [hr]; exact hrt) (Or.inl ⟨_, rfl⟩) (Or.inr ⟨_, rfl⟩) (endW (fun k q => by cases q) HH) hS.2.2 hdg hlk)
      · rename_i hrt
        exact fin (W.aret hx hb (by rw [hr]; exact hrt) (Or.inr ⟨_, rfl⟩) (Or.inr ⟨_, rfl⟩) (endW (fun k q => by cases q) HH) hS.2.2 hdg hlk)
      · exact HH.elim
    · exact HH.elim
  | return_ =>
    simp only [sx_ins] at HH
    split at HH
    · split at HH
      · rename_i hrt
        exact fin (W.vret hx hb (by rw [hr]; exact hrt) (endW (fun k q => by cases q) HH) hS.2.2 hdg hlk)
      · exact HH.elim
    · exact HH.elim
  | _ => exact False.elim HH

/-- THE SMALL MACHINE IS SOUND: what sx_X says of a method's run holds of the JVM -/
theorem sx_sound {l : Launch} {sh : sx_S} (hnew : sx_newOk l sh) {j pc : Nat} {lv : sx_L} {st : List Value} {h : sx_H} {Q : sx_Q} (H : sx_X sh j pc lv st h Q) : sx_sem l sh j pc lv st h Q :=
  H (sx_sem l sh) (sx_sem_mono l sh) (sx_sem_clos l sh hnew)
theorem sx_newOk_w (l : Launch) {sh : sx_S} (hw : sh.2 = true) : sx_newOk l sh := fun _ _ _ _ _ _ _ _ _ _ h _ => by rw [hw] at h; cases h
