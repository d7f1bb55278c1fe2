-- THE CLASS WRITES (Writer: object 14, text 15 and 16)
theorem br.cg {h : sx_H} {a W n : Nat} {t t' : Nat → Nat} (x : br h a W n t) (e : ∀ i, i < n → t i = t' i) : br h a W n t' := ⟨x.1, x.2.1, fun i hi => (x.2.2 i hi).trans (e i hi)⟩
def tb (h : sx_H) (tx : List Nat) : Prop := br h 15 512 tx.length (fun i => tx.getD i 0)
def s56 : Nat → Prop := fun b => b = 15 ∨ b = 16
theorem e_addT {h : sx_H} {x : Nat} {tx : List Nat} {f : sx_H → Prop} (hx : x < 256) (hl : tx.length < 4096) (ht : tb h tx) (H : ∀ h', kp s56 h h' → tb h' (tx ++ [x]) → f h') :
    sx_X sx_w 2 0 [some (.ref 15), some (.int (nI x)), none, none] [] h (sx_qv f) := by
  refine e_add (a := 15) (W := 512) rfl rfl rfl (by decide) ht (by omega) (fun h' b' k' => H h' k' ?_)
  unfold tb
  rw [len1]
  refine b'.cg (fun i hi => ?_)
  rw [nI_mod, List.getD_eq_getElem?_getD]
  by_cases q : i = tx.length
  · rw [q, va_up_self, app_last]
    show _ = x
    omega
  · rw [va_up_ne _ _ q, List.getElem?_append_left (by omega)]
    exact List.getD_eq_getElem?_getD
def dgs (v : Nat) : List Nat := (if 100 ≤ v then [48 + v / 100 % 10] else []) ++ ((if 10 ≤ v then [48 + v / 10 % 10] else []) ++ [48 + v % 10])
theorem dgs_len (v : Nat) : (dgs v).length ≤ 3 := by
  unfold dgs
  split <;> split <;> simp
def nmb (v b : Nat) : List Nat := dgs v ++ [b]
theorem nmb_len (v b : Nat) : (nmb v b).length ≤ 4 := by
  unfold nmb
  have := dgs_len v
  rw [len1]
  omega
theorem e_numPut {h : sx_H} {v u : Nat} {b : Int32} {tx : List Nat} {f : sx_H → Prop} (hu : u ≤ v ∨ u = 1) (hu0 : 0 < u) (hu1 : u < 2 ^ 31) (hv : v < 2 ^ 31) (hl : tx.length < 4096) (ht : tb h tx)
    (H : ∀ h', kp s56 h h' → tb h' (tx ++ [48 + v / u % 10]) → sx_X sx_w 60 3 [some (.ref 14), some (.int (nI v)), some (.int b), some (.int (nI (u / 10)))] [] h' (sx_qv f)) :
    sx_X sx_w 60 3 [some (.ref 14), some (.int (nI v)), some (.int b), some (.int (nI u))] [] h (sx_qv f) := by
  have hle : v / u ≤ v := Nat.div_le_self _ _
  have e : 48 + ((nI v / nI u) - (nI v / nI u) / 10 * 10) = nI (48 + v / u % 10) := by
    rw [pk_div hv hu0 hu1, show nI (v / u) - nI (v / u) / 10 * 10 = nI (v / u % 10) from pk_rem (a := v / u) (d := 10) (by omega) (by decide) (by decide), show (48 : Int32) = nI 48 from rfl, nI_add]
  have go : (sx_w.1 (14 + 1)).1 = 4 ∧ sx_X sx_w 2 0 [some (.ref (14 + 1)), some (.int (48 + ((nI v / nI u) - (nI v / nI u) / 10 * 10))), none, none] [] h (sx_qv fun h2 => (¬ (10 : Int32) = 0 ∧ sx_X sx_w 60 3 [some (.ref 14), some (.int (nI v)), some (.int b), some (.int (nI u / 10))] [] h2 (sx_qv f))) := by
    refine ⟨rfl, ?_⟩
    rw [e]
    refine e_addT (by omega) hl ht (fun h' k' t' => ⟨by decide, ?_⟩)
    rw [show nI u / 10 = nI (u / 10) from pk_div (d := 10) hu1 (by decide) (by decide)]
    exact H h' k' t'
  refine g_60_3 h 14 _ _ _ (pk_le (y := 0) u 0 (fun z => (by omega)) (fun _ => pk_le u v (fun _ => ⟨rfl, nI_ne0 hu0 hu1, by decide, go⟩) (fun z => pk_en (y := 1) u 1 (fun z1 => (by omega)) (fun z1 => ⟨rfl, nI_ne0 hu0 hu1, by decide, go⟩))))
theorem e_numSkip {h : sx_H} {v u : Nat} {b : Int32} {f : sx_H → Prop} (hu : v < u) (hu0 : 1 < u) (hu1 : u < 2 ^ 31) (H : sx_X sx_w 60 3 [some (.ref 14), some (.int (nI v)), some (.int b), some (.int (nI (u / 10)))] [] h (sx_qv f)) :
    sx_X sx_w 60 3 [some (.ref 14), some (.int (nI v)), some (.int b), some (.int (nI u))] [] h (sx_qv f) := by
  refine g_60_3 h 14 _ _ _ (pk_le (y := 0) u 0 (fun z => (by omega)) (fun _ => pk_le u v (fun z => (by omega)) (fun z => pk_en (y := 1) u 1 (fun z1 => ⟨by decide, ?_⟩) (fun z1 => (by omega)))))
  rw [show nI u / 10 = nI (u / 10) from pk_div (d := 10) hu1 (by decide) (by decide)]
  exact H
theorem e_addNumber {h : sx_H} {v b : Nat} {tx : List Nat} {f : sx_H → Prop} (hv : v < 1000) (hb : b < 256) (hl : tx.length + 4 ≤ 4096) (ht : tb h tx) (H : ∀ h', kp s56 h h' → tb h' (tx ++ nmb v b) → f h') :
    sx_X sx_w 60 0 [some (.ref 14), some (.int (nI v)), some (.int (nI b)), none] [] h (sx_qv f) := by
  have fin : ∀ (h0 : sx_H) (t0 : List Nat), kp s56 h h0 → tb h0 t0 → t0.length < 4096 → t0 ++ [b] = tx ++ nmb v b → sx_X sx_w 60 3 [some (.ref 14), some (.int (nI v)), some (.int (nI b)), some (.int (nI 0))] [] h0 (sx_qv f) := fun h0 t0 k0 b0 l0 e => by
    refine g_60_3 h0 14 _ _ _ ⟨fun _ => ⟨rfl, rfl, e_addT hb l0 b0 (fun h' k' t' => H h' (k0.tr k') (by rw [← e]; exact t'))⟩, fun z => absurd (by decide) z⟩
  have one : ∀ (h0 : sx_H) (t0 : List Nat), kp s56 h h0 → tb h0 t0 → t0.length + 2 ≤ 4096 → t0 ++ [48 + v % 10] ++ [b] = tx ++ nmb v b → sx_X sx_w 60 3 [some (.ref 14), some (.int (nI v)), some (.int (nI b)), some (.int (nI 1))] [] h0 (sx_qv f) := fun h0 t0 k0 b0 l0 e => by
    refine e_numPut (Or.inr rfl) (by decide) (by decide) (by omega) (by omega) b0 (fun h1 k1 b1 => fin h1 _ (k0.tr k1) b1 (by rw [len1]; omega) (by rw [Nat.div_one]; exact e))
  have ten : ∀ (h0 : sx_H) (t0 : List Nat), kp s56 h h0 → tb h0 t0 → t0.length + 3 ≤ 4096 → t0 ++ ((if 10 ≤ v then [48 + v / 10 % 10] else []) ++ [48 + v % 10]) ++ [b] = tx ++ nmb v b → sx_X sx_w 60 3 [some (.ref 14), some (.int (nI v)), some (.int (nI b)), some (.int (nI 10))] [] h0 (sx_qv f) := fun h0 t0 k0 b0 l0 e => by
    by_cases q : 10 ≤ v
    · rw [if_pos q] at e
      exact e_numPut (Or.inl q) (by decide) (by decide) (by omega) (by omega) b0 (fun h1 k1 b1 => one h1 _ (k0.tr k1) b1 (by rw [len1]; omega) (by rw [← e]; simp only [List.append_assoc]))
    · rw [if_neg q] at e
      exact e_numSkip (by omega) (by decide) (by decide) (one h0 t0 k0 b0 (by omega) e)
  have hun : sx_X sx_w 60 3 [some (.ref 14), some (.int (nI v)), some (.int (nI b)), some (.int (nI 100))] [] h (sx_qv f) := by
    by_cases q : 100 ≤ v
    · exact e_numPut (Or.inl q) (by decide) (by decide) (by omega) (by omega) ht (fun h1 k1 b1 => ten h1 _ k1 b1 (by rw [len1]; omega) (by unfold nmb dgs; rw [if_pos q]; simp only [List.append_assoc]))
    · exact e_numSkip (by omega) (by decide) (by decide) (ten h tx kp.rf ht (by omega) (by unfold nmb dgs; rw [if_neg q]; simp only [List.append_assoc, List.nil_append]))
  refine g_60_0 h 14 _ _ ?_
  refine e_numSkip (u := 100000000) (by omega) (by decide) (by decide) ?_
  refine e_numSkip (u := 10000000) (by omega) (by decide) (by decide) ?_
  refine e_numSkip (u := 1000000) (by omega) (by decide) (by decide) ?_
  refine e_numSkip (u := 100000) (by omega) (by decide) (by decide) ?_
  refine e_numSkip (u := 10000) (by omega) (by decide) (by decide) ?_
  exact e_numSkip (u := 1000) (by omega) (by decide) (by decide) hun
def stp (v : Nat) : List Nat := if v < 128 then [v] else [128 + v % 128, v / 128]
theorem stp_len (v : Nat) : (stp v).length ≤ 2 := by unfold stp; split <;> simp
theorem e_addStep {h : sx_H} {v : Nat} {tx : List Nat} {f : sx_H → Prop} (hv : v < 1000) (hl : tx.length + 2 ≤ 4096) (ht : tb h tx) (H : ∀ h', kp s56 h h' → tb h' (tx ++ stp v) → f h') : sx_X sx_w 59 0 [some (.ref 14), some (.int (nI v))] [] h (sx_qv f) := by
  refine g_59_0 h 14 _ (pk_le 128 v (fun z => ⟨rfl, by decide, rfl, ?_⟩) (fun z => ⟨rfl, rfl, e_addT (by omega) (by omega) ht (fun h' k' t' => H h' k' ?_)⟩))
  · rw [show nI v - nI v / 128 * 128 = nI (v % 128) from pk_rem (d := 128) (by omega) (by decide) (by decide), show (128 : Int32) + nI (v % 128) = nI (128 + v % 128) from nI_add 128 _]
    refine e_addT (by omega) (by omega) ht (fun h1 k1 t1 => ⟨rfl, by decide, rfl, ?_⟩)
    rw [show nI v / 128 = nI (v / 128) from pk_div (d := 128) (by omega) (by decide) (by decide)]
    refine e_addT (by omega) (by rw [len1]; omega) t1 (fun h2 k2 t2 => H h2 (k1.tr k2) ?_)
    unfold stp
    rw [if_neg (by omega)]
    rw [List.append_assoc] at t2
    exact t2
  · unfold stp
    rw [if_pos (by omega)]
    exact t'
def gtx (bin : Bool) (o a b : Nat) : List Nat := cond bin (stp (o - a) ++ stp (a - b)) (nmb o 32 ++ (nmb a 32 ++ nmb b 10))
theorem gtx_len (bin : Bool) (o a b : Nat) : (gtx bin o a b).length ≤ 12 := by
  unfold gtx
  cases bin
  · simp only [cond_false, List.length_append]
    have := nmb_len o 32
    have := nmb_len a 32
    have := nmb_len b 10
    omega
  · simp only [cond_true, List.length_append]
    have := stp_len (o - a)
    have := stp_len (a - b)
    omega
theorem e_addGate {h : sx_H} {o a b : Nat} {bin : Bool} {tx : List Nat} {f : sx_H → Prop} (ho : o < 1000) (ha : a ≤ o) (hb : b ≤ a) (hl : tx.length + 12 ≤ 4096) (ht : tb h tx) (H : ∀ h', kp s56 h h' → tb h' (tx ++ gtx bin o a b) → f h') :
    sx_X sx_w 58 0 [some (.ref 14), some (.int (nI o)), some (.int (nI a)), some (.int (nI b)), some (.int (if bin then 1 else 0))] [] h (sx_qv f) := by
  cases bin with
  | false =>
    refine g_58_0 h 14 _ _ _ _ ⟨fun _ => ⟨rfl, ?_⟩, fun z => absurd rfl z⟩
    have l1 := nmb_len o 32
    have l2 := nmb_len a 32
    refine e_addNumber (b := 32) ho (by decide) (by omega) ht (fun h1 k1 t1 => ⟨rfl, e_addNumber (b := 32) (by omega) (by decide) (by rw [List.length_append]; omega) t1 (fun h2 k2 t2 => ⟨rfl, e_addNumber (b := 10) (by omega) (by decide) (by rw [List.length_append, List.length_append]; omega) t2 (fun h3 k3 t3 => H h3 ((k1.tr k2).tr k3) ?_)⟩)⟩)
    unfold gtx
    simp only [cond_false, List.append_assoc] at t3 ⊢
    exact t3
  | true =>
    refine g_58_0 h 14 _ _ _ _ ⟨fun z => absurd z (by decide), fun _ => ⟨rfl, ?_⟩⟩
    have l1 := stp_len (o - a)
    rw [pk_sub ha, pk_sub hb]
    refine e_addStep (by omega) (by omega) ht (fun h1 k1 t1 => ⟨rfl, e_addStep (by omega) (by rw [List.length_append]; omega) t1 (fun h2 k2 t2 => H h2 (k1.tr k2) ?_)⟩)
    unfold gtx
    simp only [cond_true, List.append_assoc] at t2 ⊢
    exact t2
def ltx (bin : Bool) (I O a : Nat) : List Nat := [97, cond bin 105 97, 103, 32] ++ (nmb (I + a) 32 ++ (nmb I 32 ++ (nmb 0 32 ++ (nmb O 32 ++ nmb a 10))))
theorem ltx_len (bin : Bool) (I O a : Nat) : (ltx bin I O a).length ≤ 24 := by
  unfold ltx
  simp only [List.length_append]
  have := nmb_len (I + a) 32
  have := nmb_len I 32
  have := nmb_len 0 32
  have := nmb_len O 32
  have := nmb_len a 10
  have e : ([97, cond bin 105 97, 103, 32] : List Nat).length = 4 := rfl
  omega
theorem e_addFirstLine {h : sx_H} {c I O a : Nat} {bin : Bool} {f : sx_H → Prop} (hc : cc c) (hI : h.1 c 0 = nI I) (hO : h.1 c 2 = nI O) (hI' : I ≤ 14) (hO' : O ≤ 16) (ha : a ≤ 300) (ht : tb h []) (H : ∀ h', kp s56 h h' → tb h' (ltx bin I O a) → f h') :
    sx_X sx_w 57 0 [some (.ref 14), some (.ref c), some (.int (nI a)), some (.int (if bin then 1 else 0))] [] h (sx_qv f) := by
  obtain ⟨q0, -⟩ := cc_sh hc
  have hc' := hc
  unfold cc at hc'
  have nel : ∀ {h0 : sx_H}, kp s56 h h0 → h0.1 c = h.1 c := fun {h0} k => k.i (by unfold s56; omega)
  have l1 := nmb_len (I + a) 32
  have l2 := nmb_len I 32
  have l3 := nmb_len 0 32
  have l4 := nmb_len O 32
  have rest : ∀ (h4 : sx_H) (t4 : List Nat), kp s56 h h4 → tb h4 t4 → t4 = [97, cond bin 105 97, 103, 32] → sx_X sx_w 60 0 [some (.ref 14), some (.int ((h4.1 c 0) + nI a)), some (.int 32), none] [] h4 (sx_qv fun h5 => ((sx_w.1 c).1 = 5 ∧ ((sx_w.1 14).1 = 9 ∧ sx_X sx_w 60 0 [some (.ref 14), some (.int (h5.1 c 0)), some (.int 32), none] [] h5 (sx_qv fun h6 => ((sx_w.1 14).1 = 9 ∧ sx_X sx_w 60 0 [some (.ref 14), some (.int 0), some (.int 32), none] [] h6 (sx_qv fun h7 => ((sx_w.1 c).1 = 5 ∧ ((sx_w.1 14).1 = 9 ∧ sx_X sx_w 60 0 [some (.ref 14), some (.int (h7.1 c 2)), some (.int 32), none] [] h7 (sx_qv fun h8 => ((sx_w.1 14).1 = 9 ∧ sx_X sx_w 60 0 [some (.ref 14), some (.int (nI a)), some (.int 10), none] [] h8 (sx_qv fun h9 => f h9))))))))))) := by
    intro h4 t4 k4 b4 e4
    have e4' : t4.length = 4 := by rw [e4]; rfl
    rw [nel k4, hI, nI_add]
    refine e_addNumber (b := 32) (by omega) (by decide) (by omega) b4 (fun h5 k5 b5 => ⟨q0, rfl, ?_⟩)
    rw [nel (k4.tr k5), hI]
    refine e_addNumber (b := 32) (by omega) (by decide) (by rw [List.length_append]; omega) b5 (fun h6 k6 b6 => ⟨rfl, e_addNumber (v := 0) (b := 32) (by decide) (by decide) (by rw [List.length_append, List.length_append]; omega) b6 (fun h7 k7 b7 => ⟨q0, rfl, ?_⟩)⟩)
    rw [nel (((k4.tr k5).tr k6).tr k7), hO]
    refine e_addNumber (b := 32) (by omega) (by decide) (by rw [List.length_append, List.length_append, List.length_append]; omega) b7 (fun h8 k8 b8 => ⟨rfl, e_addNumber (b := 10) (by omega) (by decide) (by rw [List.length_append, List.length_append, List.length_append, List.length_append]; omega) b8 (fun h9 k9 b9 => H h9 (((((k4.tr k5).tr k6).tr k7).tr k8).tr k9) ?_)⟩)
    unfold ltx
    simp only [List.append_assoc] at b9
    rw [e4] at b9
    exact b9
  refine g_57_0 h 14 c _ _ ⟨rfl, rfl, e_addT (x := 97) (by decide) (by decide) ht (fun h1 k1 b1 => ⟨rfl, ?_⟩)⟩
  cases bin with
  | false =>
    refine ⟨fun _ => ⟨rfl, e_addT (x := 97) (by decide) (by decide) b1 (fun h2 k2 b2 => ⟨rfl, rfl, e_addT (x := 103) (by decide) (by decide) b2 (fun h3 k3 b3 => ⟨rfl, rfl, e_addT (x := 32) (by decide) (by decide) b3 (fun h4 k4 b4 => ⟨q0, rfl, rest h4 _ (((k1.tr k2).tr k3).tr k4) b4 rfl⟩)⟩)⟩)⟩, fun z => absurd rfl z⟩
  | true =>
    refine ⟨fun z => absurd z (by decide), fun _ => ⟨rfl, e_addT (x := 105) (by decide) (by decide) b1 (fun h2 k2 b2 => ⟨rfl, rfl, e_addT (x := 103) (by decide) (by decide) b2 (fun h3 k3 b3 => ⟨rfl, rfl, e_addT (x := 32) (by decide) (by decide) b3 (fun h4 k4 b4 => ⟨q0, rfl, rest h4 _ (((k1.tr k2).tr k3).tr k4) b4 rfl⟩)⟩)⟩)⟩⟩
