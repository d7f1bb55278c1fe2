-- THE CLASS WRITES: the whole text
theorem wr_succ {I : Nat} {C : Nat → Prop} (n : Nat) : wr I C n ≤ wr I C (n + 1) := by
  by_cases q : n ≤ I ∨ C n
  · rw [wr_y q]; omega
  · rw [wr_n (fun z => q (Or.inl z)) (fun z => q (Or.inr z))]; exact Nat.le_refl _
theorem wr_mono {I : Nat} {C : Nat → Prop} {m n : Nat} (h : m ≤ n) : wr I C m ≤ wr I C n := by
  induction h with
  | refl => exact Nat.le_refl _
  | step _ ih => exact Nat.le_trans ih (wr_succ _)
theorem wr_lt {I : Nat} {C : Nat → Prop} {m n : Nat} (h : m < n) (hm : m ≤ I ∨ C m) : wr I C m < wr I C n := by
  have h1 := wr_mono (I := I) (C := C) (show m + 1 ≤ n from h)
  rw [wr_y hm] at h1
  exact h1
noncomputable def wl (I : Nat) (C : Nat → Prop) (x : Nat) : Nat := 2 * wr I C (x / 2) + x % 2
theorem wl_le {I : Nat} {C : Nat → Prop} {x y : Nat} (h : x ≤ y) (hx : x / 2 ≤ I ∨ C (x / 2)) : wl I C x ≤ wl I C y := by
  unfold wl
  by_cases q : x / 2 = y / 2
  · rw [q]; omega
  · have := wr_lt (I := I) (C := C) (show x / 2 < y / 2 by omega) hx
    omega
theorem wl_bd {I : Nat} {C : Nat → Prop} {x : Nat} : wl I C x ≤ x := by
  unfold wl
  have := wr_le (I := I) (C := C) (x / 2)
  omega
theorem e_writtenLiteral {sh : sx_S} {h : sx_H} {x I : Nat} {C : Nat → Prop} {f : Int32 → sx_H → Prop} (hs : sh.1 = sx_shp) (hx : x / 2 < 315) (hv : h.1 13 (x / 2) = nI (wr I C (x / 2))) (H : f (nI (wl I C x)) h) : sx_X sh 55 0 [some (.ref 10), some (.int (nI x))] [] h (sx_qi f) := by
  refine g_55_0 h 10 _ ⟨by rw [hs]; rfl, e_pick (a := 10 + 3) (n := 315) (by rw [hs]; rfl) (by decide) ?_⟩
  rw [sh_half (by omega), pk_nI hx (by decide), show h.1 (10 + 3) (x / 2) = _ from hv, an_1 (by omega), show (2 : Int32) = nI 2 from rfl, pk_mul, nI_add]
  exact H
def itx (I : Nat) : List Nat := (List.range I).flatMap (fun k => nmb (2 * (k + 1)) 10)
noncomputable def otx (I : Nat) (C : Nat → Prop) (S OU : List Nat) : List Nat := OU.flatMap (fun x => nmb (wl I C (nl S x)) 10)
noncomputable def ngx (bin : Bool) (I : Nat) (C : Nat → Prop) (hi lo : Nat → Nat) (n : Nat) : List Nat := @ite _ (C n) (Classical.propDecidable _) (gtx bin (wl I C (2 * n)) (wl I C (hi n)) (wl I C (lo n))) []
noncomputable def ctx (bin : Bool) (I O A a : Nat) (C : Nat → Prop) (hi lo : Nat → Nat) (S OU : List Nat) : List Nat := ltx bin I O a ++ (cond bin [] (itx I) ++ (otx I C S OU ++ (List.range' (I + 1) A).flatMap (ngx bin I C hi lo)))
theorem ngx_y {bin : Bool} {I : Nat} {C : Nat → Prop} {hi lo : Nat → Nat} {n : Nat} (h : C n) : ngx bin I C hi lo n = gtx bin (wl I C (2 * n)) (wl I C (hi n)) (wl I C (lo n)) := by unfold ngx; rw [if_pos h]
theorem ngx_n {bin : Bool} {I : Nat} {C : Nat → Prop} {hi lo : Nat → Nat} {n : Nat} (h : ¬ C n) : ngx bin I C hi lo n = [] := by unfold ngx; rw [if_neg h]
theorem e_compose {h : sx_H} {c M I O A a : Nat} {bin : Bool} {L OU : List Nat} {G : List gt} {T : List Nat} {dp hi lo fo : Nat → Nat} {C : Nat → Prop} {f : sx_H → Prop} (hc : cc c) (ci : CI h c M I O A L OU G T dp hi lo fo) (ha : a ≤ 300) (hlh : ∀ n, I < n → n < I + 1 + A → lo n ≤ hi n)
    (hC : ∀ k, k < I + 1 + A → (h.1 12 k = 1 ↔ C k)) (hCc : ∀ n, C n → I < n → n < I + 1 + A → C (hi n / 2) ∧ C (lo n / 2)) (hCo : ∀ x ∈ OU, C (nl (sv L ++ T) x / 2)) (hW : ∀ n, n < I + 1 + A → (n ≤ I ∨ C n) → h.1 13 n = nI (wr I C n))
    (H : ∀ h', kp s56 h h' → tb h' (ctx bin I O A a C hi lo (sv L ++ T) OU) → f h') :
    sx_X sx_w 56 0 [some (.ref 14), some (.ref c), some (.ref 10), some (.int (nI a)), some (.int (if bin then 1 else 0)), none] [] h (sx_qv f) := by
  obtain ⟨q0, q1, q2, q3, q4, q5, q6, q7, q8, q9, q10⟩ := cc_sh hc
  obtain ⟨lM, lI, lO, lA, lN⟩ := ci.le
  have hc' := hc
  unfold cc at hc'
  have lOU := ci.1.1.2.1.2.1
  have cie : ∀ {h0 : sx_H}, kp s56 h h0 → CI h0 c M I O A L OU G T dp hi lo fo := fun {h0} k0 => ci.eq (fun j hj => k0.i (by unfold s56; omega))
  have e12 : ∀ {h0 : sx_H}, kp s56 h h0 → h0.1 12 = h.1 12 ∧ h0.1 13 = h.1 13 := fun {h0} k0 => ⟨k0.i (by unfold s56; decide), k0.i (by unfold s56; decide)⟩
  have key3 : ∀ (e k : Nat) (t0 : List Nat) (h0 : sx_H), k + e = A → kp s56 h h0 → tb h0 t0 → t0.length ≤ 144 + 12 * k → t0 ++ (List.range' (I + 1 + k) e).flatMap (ngx bin I C hi lo) = ctx bin I O A a C hi lo (sv L ++ T) OU → sx_X sx_w 56 99 [some (.ref 14), some (.ref c), some (.ref 10), some (.int (nI a)), some (.int (if bin then 1 else 0)), some (.int (nI (I + 1 + k)))] [] h0 (sx_qv f) := by
    intro e
    induction e with
    | zero =>
      intro k t0 h0 hk k0 b0 l0 et
      have ci0 := cie k0
      refine g_56_99 h0 14 c 10 _ _ _ ⟨q0, e_nodeCount q0 ci0.2.1.1.1 ci0.2.1.1.2.1 (pk_le (I + 1 + A) (I + 1 + k) (fun _ => H h0 k0 ?_) (fun z => (by omega)))⟩
      rw [← et]
      show tb h0 (t0 ++ [])
      rw [List.append_nil]
      exact b0
    | succ e ih =>
      intro k t0 h0 hk k0 b0 l0 et
      have ci0 := cie k0
      obtain ⟨x12, x13⟩ := e12 k0
      rw [rg_cons, List.flatMap_cons] at et
      have hn1 : I < I + 1 + k := by omega
      have hn2 : I + 1 + k < I + 1 + A := by omega
      generalize en : I + 1 + k = n at et hn1 hn2
      obtain ⟨r1, r2, r3, r4⟩ := ci0.2.2.2.2.1 n hn1 hn2
      refine g_56_99 h0 14 c 10 _ _ _ ⟨q0, e_nodeCount q0 ci0.2.1.1.1 ci0.2.1.1.2.1 (pk_le (I + 1 + A) n (fun z => (by omega)) (fun _ => ⟨rfl, e_isMarked rfl (by omega) (fun hm => ⟨fun y => absurd y (by decide), fun _ => ⟨rfl, ?_⟩⟩) (fun hm => ⟨fun _ => ?_, fun y => absurd rfl y⟩)⟩))⟩
      · have hCn : C n := (hC n hn2).mp (by rw [← x12]; exact hm)
        obtain ⟨c1, c2⟩ := hCc n hCn hn1 hn2
        rw [show (2 : Int32) * nI n = nI (2 * n) from pk_mul 2 n]
        have v0 : h0.1 13 (2 * n / 2) = nI (wr I C (2 * n / 2)) := by rw [x13, show 2 * n / 2 = n by omega]; exact hW n hn2 (Or.inr hCn)
        refine e_writtenLiteral (I := I) (C := C) rfl (by omega) v0 ⟨q0, e_pick q8 (by decide) ⟨rfl, ?_⟩⟩
        rw [pk_nI (by omega) (by decide), r1]
        refine e_writtenLiteral (I := I) (C := C) rfl (by omega) (by rw [x13]; exact hW _ (by omega) (Or.inr c1)) ⟨q0, e_pick q9 (by decide) ⟨rfl, ?_⟩⟩
        rw [pk_nI (by omega) (by decide), r2]
        refine e_writtenLiteral (I := I) (C := C) rfl (by omega) (by rw [x13]; exact hW _ (by omega) (Or.inr c2)) ⟨rfl, ?_⟩
        have b1 := wl_bd (I := I) (C := C) (x := 2 * n)
        refine e_addGate (bin := bin) (by omega) (wl_le (by omega) (Or.inr c1)) (wl_le (hlh n hn1 hn2) (Or.inr c2)) (by omega) b0 (fun h1 k1 t1 => ?_)
        rw [nI_1]
        have lg := gtx_len bin (wl I C (2 * n)) (wl I C (hi n)) (wl I C (lo n))
        have := ih (k + 1) _ h1 (by omega) (k0.tr k1) t1 (by rw [List.length_append]; omega) (by rw [← ngx_y hCn, List.append_assoc, show I + 1 + (k + 1) = n + 1 by omega]; exact et)
        rw [show I + 1 + (k + 1) = n + 1 by omega] at this
        exact this
      · have hCn : ¬ C n := fun q => hm (by rw [x12]; exact (hC n hn2).mpr q)
        rw [ngx_n hCn, List.nil_append] at et
        rw [nI_1]
        have := ih (k + 1) t0 h0 (by omega) k0 b0 (by omega) (by rw [show I + 1 + (k + 1) = n + 1 by omega]; exact et)
        rw [show I + 1 + (k + 1) = n + 1 by omega] at this
        exact this
  have key2 : ∀ (rest : List Nat) (o : Nat) (t0 : List Nat) (h0 : sx_H), OU.drop o = rest → o ≤ OU.length → kp s56 h h0 → tb h0 t0 → t0.length ≤ 80 + 4 * o → t0 ++ (otx I C (sv L ++ T) rest ++ (List.range' (I + 1) A).flatMap (ngx bin I C hi lo)) = ctx bin I O A a C hi lo (sv L ++ T) OU → sx_X sx_w 56 53 [some (.ref 14), some (.ref c), some (.ref 10), some (.int (nI a)), some (.int (if bin then 1 else 0)), some (.int (nI o))] [] h0 (sx_qv f) := by
    intro rest
    induction rest with
    | nil =>
      intro o t0 h0 hd ho k0 b0 l0 et
      have ci0 := cie k0
      have := dropn hd
      refine g_56_53 h0 14 c 10 _ _ _ ⟨q0, ?_⟩
      rw [ci0.2.1.1.2.2.1]
      refine pk_le O o (fun _ => ⟨q0, ?_⟩) (fun z => (by omega))
      rw [ci0.2.1.1.1, nI_1]
      exact key3 A 0 t0 h0 (by omega) k0 b0 (by omega) et
    | cons x rest ih =>
      intro o t0 h0 hd _ k0 b0 l0 et
      obtain ⟨ho, hx, hd'⟩ := dropc hd
      have ci0 := cie k0
      obtain ⟨x12, x13⟩ := e12 k0
      have hxO := List.mem_of_getElem? hx
      have hx2 := ci.1.1.2.2.2.2 x hxO
      have hxS := ci.1.stn (ci.1.2.1 x hxO)
      obtain ⟨n1, n2⟩ := ci0.nl hx2 hxS
      refine g_56_53 h0 14 c 10 _ _ _ ⟨q0, ?_⟩
      rw [ci0.2.1.1.2.2.1]
      refine pk_le O o (fun z => (by omega)) (fun _ => ⟨q0, e_pick q2 (by decide) ⟨q0, ?_⟩⟩)
      rw [pk_nI (by omega) (by decide), ci0.2.1.2.2.1 o x hx]
      refine e_nodeLiteral q0 q7 ci0.2.1.1.2.2.2 lM ⟨rfl, ?_⟩
      rw [n1]
      have b1 := wl_bd (I := I) (C := C) (x := nl (sv L ++ T) x)
      refine e_writtenLiteral (I := I) (C := C) rfl (by omega) (by rw [x13]; exact hW _ n2 (Or.inr (hCo x hxO))) ⟨rfl, e_addNumber (b := 10) (by omega) (by decide) (by omega) b0 (fun h1 k1 t1 => ?_)⟩
      rw [nI_1]
      have ln := nmb_len (wl I C (nl (sv L ++ T) x)) 10
      refine ih (o + 1) _ h1 hd' (by omega) (k0.tr k1) t1 (by rw [List.length_append]; omega) ?_
      rw [← et]
      unfold otx
      rw [List.flatMap_cons]
      simp only [List.append_assoc]
  have key1 : ∀ (e k : Nat) (t0 : List Nat) (h0 : sx_H), bin = false → k + e = I → kp s56 h h0 → tb h0 t0 → t0.length ≤ 24 + 4 * k → t0 ++ ((List.range' k e).flatMap (fun k => nmb (2 * (k + 1)) 10) ++ (otx I C (sv L ++ T) OU ++ (List.range' (I + 1) A).flatMap (ngx bin I C hi lo))) = ctx bin I O A a C hi lo (sv L ++ T) OU → sx_X sx_w 56 23 [some (.ref 14), some (.ref c), some (.ref 10), some (.int (nI a)), some (.int (if bin then 1 else 0)), some (.int (nI k))] [] h0 (sx_qv f) := by
    intro e
    induction e with
    | zero =>
      intro k t0 h0 hbn hk k0 b0 l0 et
      have ci0 := cie k0
      refine g_56_23 h0 14 c 10 _ _ _ ⟨q0, ?_⟩
      rw [ci0.2.1.1.1]
      exact pk_le I k (fun _ => key2 OU 0 t0 h0 rfl (Nat.zero_le _) k0 b0 (by omega) et) (fun z => (by omega))
    | succ e ih =>
      intro k t0 h0 hbn hk k0 b0 l0 et
      have ci0 := cie k0
      refine g_56_23 h0 14 c 10 _ _ _ ⟨q0, ?_⟩
      rw [ci0.2.1.1.1]
      refine pk_le I k (fun z => (by omega)) (fun _ => ⟨rfl, ?_⟩)
      rw [nI_1, show (2 : Int32) * nI (k + 1) = nI (2 * (k + 1)) from pk_mul 2 _]
      refine e_addNumber (b := 10) (by omega) (by decide) (by omega) b0 (fun h1 k1 t1 => ?_)
      have ln := nmb_len (2 * (k + 1)) 10
      refine ih (k + 1) _ h1 hbn (by omega) (k0.tr k1) t1 (by rw [List.length_append]; omega) ?_
      rw [← et, rg_cons, List.flatMap_cons]
      simp only [List.append_assoc]
  refine g_56_0 h 14 c 10 _ _ ⟨rfl, rfl, e_clear rfl rfl ⟨rfl, ?_⟩⟩
  have k1 : kp s56 h (hw h (14 + 1) (va_up (h.1 (14 + 1)) 0 0)) := kp_hw (S := s56) (Or.inl rfl)
  have ci1 := cie k1
  have t1 : tb (hw h (14 + 1) (va_up (h.1 (14 + 1)) 0 0)) [] := by
    refine ⟨?_, Nat.zero_le _, fun i hi => absurd hi (Nat.not_lt_zero _)⟩
    show (hw h 15 _).1 15 0 = _
    rw [hw_self, va_up_self]
    rfl
  refine e_addFirstLine (bin := bin) hc ci1.2.1.1.1 ci1.2.1.1.2.2.1 lI lO ha t1 (fun h2 k2 t2 => ?_)
  have ll := ltx_len bin I O a
  cases bin with
  | false => exact ⟨fun z => absurd rfl z, fun _ => key1 I 0 _ h2 rfl (by omega) (k1.tr k2) t2 (by omega) (by rw [← List.range_eq_range']; rfl)⟩
  | true => exact ⟨fun _ => key2 OU 0 _ h2 rfl (Nat.zero_le _) (k1.tr k2) t2 (by omega) rfl, fun z => absurd z (by decide)⟩
