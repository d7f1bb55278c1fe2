-- THE REFERENCE'S TEXT
def kt (h h' : sx_H) : Prop := kp (fun b => b = 40 ∨ b = 42) h h' ∧ ∀ k, k ≠ 4 → h'.1 40 k = h.1 40 k
theorem kt.tr {h h1 h2 : sx_H} (x : kt h h1) (y : kt h1 h2) : kt h h2 := ⟨x.1.tr y.1, fun k hk => (y.2 k hk).trans (x.2 k hk)⟩
theorem kt.rf {h : sx_H} : kt h h := ⟨kp.rf, fun _ _ => rfl⟩
theorem kt.b {h h' : sx_H} (k : kt h h') {b : Nat} (h0 : b ≠ 40) (h2 : b ≠ 42) : h'.1 b = h.1 b := k.1.i (by omega)
theorem kt.rM {h h' : sx_H} {M I O A : Nat} {L OU : List Nat} {G : List gt} (k : kt h h') (hr : rM h M I O A L OU G) : rM h' M I O A L OU G := hr.eq (fun j h1 h2 => k.b (by omega) (by omega)) (fun q h1 h2 => k.2 q (by omega))
variable {h : sx_H} {tx : List Nat} {f : sx_H → Prop}
theorem f_put {x : Nat} (ht : rT h tx) (hl : tx.length < 4096) (H : ∀ h', kt h h' → rT h' (tx ++ [x]) → f h') : sx_X sx_w 114 0 [some (.ref 40), some (.int (nI x))] [] h (sx_qv f) := by
  refine g_114_0 h 40 _ ?_
  rw [sx_u_ne (by decide), ht.1, nI_clamp (n := tx.length) (by omega), nI_1]
  refine ⟨rfl, rfl, ⟨rfl, rfl, vp_in_nI (N := 8192) (by omega) (by decide)⟩, rfl, ⟨rfl, rfl⟩, H _ ⟨(kp_hw (S := fun b => b = 40 ∨ b = 42) (a := 42) (Or.inr rfl)).tr (kp_hw (S := fun b => b = 40 ∨ b = 42) (a := 40) (Or.inl rfl)), fun k hk => ?_⟩ ⟨?_, ?_, fun i hi => ?_⟩⟩
  · dsimp only
    rw [sx_u_eq, va_up_ne _ _ hk, sx_u_ne (by decide)]
  · dsimp only
    rw [sx_u_eq, va_up_self, len1]
  · rw [len1]; omega
  · dsimp only
    rw [sx_u_ne (b := 42) (by decide), show (40 + 2) = 42 from rfl, sx_u_eq]
    rw [len1] at hi
    by_cases c : i = tx.length
    · rw [c, va_up_self, List.getD_eq_getElem?_getD, app_last]
      rfl
    · rw [va_up_ne _ _ c, ht.2.2 i (by omega), List.getD_eq_getElem?_getD, List.getD_eq_getElem?_getD, List.getElem?_append_left (by omega)]
theorem f_says {v b : Nat} (hv : v < 1000) (ht : rT h tx) (hl : tx.length + 4 ≤ 4096) (H : ∀ h', kt h h' → rT h' (tx ++ nmb v b) → f h') : sx_X sx_w 115 0 [some (.ref 40), some (.int (nI v)), some (.int (nI b))] [] h (sx_qv f) := by
  have e1 : (48 : Int32) + (nI v - nI v / 10 * 10) = nI (48 + v % 10) := by
    rw [show nI v - nI v / 10 * 10 = nI (v % 10) from pk_rem (d := 10) (by omega) (by decide) (by decide)]; exact nI_add 48 _
  have e2 : (48 : Int32) + (nI v / 10 - nI v / 10 / 10 * 10) = nI (48 + v / 10 % 10) := by
    rw [show nI v / 10 = nI (v / 10) from pk_div (d := 10) (by omega) (by decide) (by decide), show nI (v / 10) - nI (v / 10) / 10 * 10 = nI (v / 10 % 10) from pk_rem (d := 10) (by omega) (by decide) (by decide)]; exact nI_add 48 _
  have e3 : (48 : Int32) + (nI v / 100 - nI v / 100 / 10 * 10) = nI (48 + v / 100 % 10) := by
    rw [show nI v / 100 = nI (v / 100) from pk_div (d := 100) (by omega) (by decide) (by decide), show nI (v / 100) - nI (v / 100) / 10 * 10 = nI (v / 100 % 10) from pk_rem (d := 10) (by omega) (by decide) (by decide)]; exact nI_add 48 _
  -- the last two: the digit of ones, and what is behind
  have ends : ∀ (h0 : sx_H) (tx0 : List Nat), kt h h0 → rT h0 tx0 → tx0.length + 2 ≤ 4096 → tx0 ++ [48 + v % 10] ++ [b] = tx ++ nmb v b → ∀ (f' : sx_H → Prop), (∀ h', f h' → f' h') → sx_X sx_w 114 0 [some (.ref 40), some (.int (nI (48 + v % 10)))] [] h0 (sx_qv fun h1 => ((sx_w.1 40).1 = 11 ∧ sx_X sx_w 114 0 [some (.ref 40), some (.int (nI b))] [] h1 (sx_qv f'))) := fun h0 tx0 k0 t0 l0 e f' hf =>
    f_put t0 (by omega) (fun h1 k1 t1 => ⟨rfl, f_put t1 (by rw [len1]; omega) (fun h2 k2 t2 => hf h2 (H h2 ((k0.tr k1).tr k2) (by rw [e] at t2; exact t2)))⟩)
  refine g_115_0 h 40 _ _ ?_
  rw [e1, e2, e3]
  refine pk_le (y := 999) v 999 (fun _ => pk_le (y := 99) v 99 (fun z2 => pk_le (y := 9) v 9 (fun z1 => ⟨by decide, rfl, ?_⟩) (fun z1 => ⟨by decide, by decide, rfl, ?_⟩)) (fun z2 => ⟨by decide, by decide, rfl, ?_⟩)) (fun z => (by omega))
  · refine ends h tx kt.rf ht (by omega) ?_ _ (fun h' x => x)
    unfold nmb dgs
    rw [if_neg (by omega), if_neg (by omega)]
    simp
  · refine f_put ht (by omega) (fun h1 k1 t1 => ⟨by decide, rfl, ends h1 _ k1 t1 (by rw [len1]; omega) ?_ _ (fun h' x => x)⟩)
    unfold nmb dgs
    rw [if_neg (by omega), if_pos (by omega)]
    simp
  · refine f_put ht (by omega) (fun h1 k1 t1 => pk_le (y := 9) v 9 (fun z => (by omega)) (fun _ => ⟨by decide, by decide, rfl, f_put t1 (by rw [len1]; omega) (fun h2 k2 t2 => ⟨by decide, rfl, ends h2 _ (k1.tr k2) t2 (by rw [len1, len1]; omega) ?_ _ (fun h' x => x)⟩)⟩))
    unfold nmb dgs
    rw [if_pos (by omega), if_pos (by omega)]
    simp
theorem f_steps {v : Nat} (hv : v < 1000) (ht : rT h tx) (hl : tx.length + 2 ≤ 4096) (H : ∀ h', kt h h' → rT h' (tx ++ stp v) → f h') : sx_X sx_w 116 0 [some (.ref 40), some (.int (nI v))] [] h (sx_qv f) := by
  have or128 : ∀ a, a < 128 → 128 ||| a = 128 + a := fun a ha => (show 128 + a = 128 ||| a from Nat.two_pow_add_eq_or_of_lt (i := 7) ha 1).symm
  refine g_116_0 h 40 _ (pk_le (x := 128) 128 v (fun z => ⟨rfl, ?_⟩) (fun z => ⟨rfl, f_put ht (by omega) (fun h' k' t' => H h' k' ?_)⟩))
  · rw [show nI v &&& 127 = nI (v % 128) from pk_andN (k := 7) (by omega) (by decide), show (128 : Int32) ||| nI (v % 128) = nI (128 ||| v % 128) from nI_or 128 _, or128 _ (Nat.mod_lt _ (by decide)), show nI v >>> (7 &&& 31) = nI (v / 128) from pk_shrN (by omega) (7 &&& 31) 7 (by decide)]
    refine f_put ht (by omega) (fun h1 k1 t1 => ⟨rfl, f_put t1 (by rw [len1]; omega) (fun h2 k2 t2 => H h2 (k1.tr k2) ?_)⟩)
    unfold stp
    rw [if_neg (by omega)]
    rw [List.append_assoc] at t2
    exact t2
  · unfold stp
    rw [if_pos z]
    exact t'
theorem f_name {sh : sx_S} {x c : Nat} {f : Int32 → sx_H → Prop} (hs : sh.1 = sx_shp) (hx : x / 2 ≤ 1000) (hv : h.1 64 (x / 2) = nI c) (H : f (nI (2 * c + x % 2)) h) : sx_X sh 117 0 [some (.ref 40), some (.int (nI x))] [] h (sx_qi f) := by
  refine g_117_0 h 40 _ ?_
  rw [rem2_nI (by omega), half_nI (by omega), nI_clamp (by omega), show h.1 (40 + 24) (x / 2) = nI c from hv, show (2 : Int32) * nI c = nI (2 * c) from nI_mul 2 c, nI_add]
  exact ⟨by rw [hs]; rfl, by decide, ⟨by rw [hs]; rfl, by rw [hs]; exact vp_in_nI (N := 1001) (by omega) (by decide)⟩, by decide, H⟩
theorem f_gateText {g x y : Nat} {bin : Bool} (hg : g < 1000) (hx : x ≤ g) (hy : y ≤ g) (ht : rT h tx) (hl : tx.length + 12 ≤ 4096) (H : ∀ h', kt h h' → rT h' (tx ++ gtx bin g (max x y) (min x y)) → f h') :
    sx_X sx_w 119 0 [some (.ref 40), some (.int (nI g)), some (.int (nI x)), some (.int (nI y)), some (.int (if bin then 1 else 0)), none, none] [] h (sx_qv f) := by
  have dec : ∀ (a b : Nat), a = max x y → b = min x y → ∀ f' : sx_H → Prop, (∀ h', f h' → f' h') → bin = false → sx_X sx_w 115 0 [some (.ref 40), some (.int (nI g)), some (.int 32)] [] h (sx_qv fun h1 => ((sx_w.1 40).1 = 11 ∧ sx_X sx_w 115 0 [some (.ref 40), some (.int (nI a)), some (.int 32)] [] h1 (sx_qv fun h2 => ((sx_w.1 40).1 = 11 ∧ sx_X sx_w 115 0 [some (.ref 40), some (.int (nI b)), some (.int 10)] [] h2 (sx_qv f'))))) := fun a b ea eb f' hf hb => by
    have l1 := nmb_len g 32
    have l2 := nmb_len a 32
    refine f_says (b := 32) hg ht (by omega) (fun h1 k1 t1 => ⟨rfl, f_says (b := 32) (by omega) t1 (by rw [List.length_append]; omega) (fun h2 k2 t2 => ⟨rfl, f_says (b := 10) (by omega) t2 (by rw [List.length_append, List.length_append]; omega) (fun h3 k3 t3 => hf h3 (H h3 ((k1.tr k2).tr k3) ?_))⟩)⟩)
    rw [hb, ← ea, ← eb]
    rw [List.append_assoc, List.append_assoc] at t3
    exact t3
  have stps : ∀ (a b : Nat), a = max x y → b = min x y → ∀ f' : sx_H → Prop, (∀ h', f h' → f' h') → bin = true → sx_X sx_w 116 0 [some (.ref 40), some (.int (nI g - nI a))] [] h (sx_qv fun h1 => ((sx_w.1 40).1 = 11 ∧ sx_X sx_w 116 0 [some (.ref 40), some (.int (nI a - nI b))] [] h1 (sx_qv f'))) := fun a b ea eb f' hf hb => by
    have l1 := stp_len (g - a)
    rw [nI_subN (by omega), nI_subN (by omega)]
    refine f_steps (by omega) ht (by omega) (fun h1 k1 t1 => ⟨rfl, f_steps (by omega) t1 (by rw [List.length_append]; omega) (fun h2 k2 t2 => hf h2 (H h2 (k1.tr k2) ?_))⟩)
    rw [hb, ← ea, ← eb]
    rw [List.append_assoc] at t2
    exact t2
  refine g_119_0 h 40 _ _ _ _ ?_
  cases bin with
  | false =>
    refine pk_le x y (fun z => pk_le x y (fun _ => ⟨fun _ => ⟨rfl, dec y x (by omega) (by omega) _ (fun h' q => q) rfl⟩, fun q => absurd rfl q⟩) (fun q => (by omega))) (fun z => pk_le x y (fun q => (by omega)) (fun _ => ⟨fun _ => ⟨rfl, dec x y (by omega) (by omega) _ (fun h' q => q) rfl⟩, fun q => absurd rfl q⟩))
  | true =>
    refine pk_le x y (fun z => pk_le x y (fun _ => ⟨fun q => absurd q (by decide), fun _ => ⟨rfl, stps y x (by omega) (by omega) _ (fun h' q => q) rfl⟩⟩) (fun q => (by omega))) (fun z => pk_le x y (fun q => (by omega)) (fun _ => ⟨fun q => absurd q (by decide), fun _ => ⟨rfl, stps x y (by omega) (by omega) _ (fun h' q => q) rfl⟩⟩))
