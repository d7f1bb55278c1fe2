-- THE REFERENCE READS: steps, literals, gates
def gq (S : Nat → Prop) (h h' : sx_H) (p : Nat) : Prop := kp S h h' ∧ h'.1 40 30 = nI p ∧ ∀ k, k ≠ 30 → h'.1 40 k = h.1 40 k
def bR (S : Nat → Prop) (h h' : sx_H) (x : rE) : Prop := kp S h h' ∧ h'.1 40 5 = nI x.1 ∧ h'.1 40 6 = nI x.2 ∧ ∀ k, k ≠ 30 → k ≠ 5 → k ≠ 6 → h'.1 40 k = h.1 40 k
def rR : Nat → Prop := fun b => b = 40 ∨ (49 ≤ b ∧ b ≤ 54) ∨ b = 58 ∨ b = 59
theorem r40_R : ∀ b, r40 b → rR b := fun _ h => Or.inl h
theorem rLn_R : ∀ b, rLn b → rR b := fun b h => by unfold rLn at h; unfold rR; omega
theorem gq.tr {S : Nat → Prop} {h h1 h2 : sx_H} {p q : Nat} (x : gq S h h1 p) (y : gq S h1 h2 q) : gq S h h2 q := ⟨x.1.tr y.1, y.2.1, fun k hk => (y.2.2 k hk).trans (x.2.2 k hk)⟩
theorem gq.mo {S S' : Nat → Prop} {h h1 : sx_H} {p : Nat} (x : gq S h h1 p) (m : ∀ b, S b → S' b) : gq S' h h1 p := ⟨x.1.mo m, x.2⟩
theorem bR.mo {S S' : Nat → Prop} {h h1 : sx_H} {p : rE} (x : bR S h h1 p) (m : ∀ b, S b → S' b) : bR S' h h1 p := ⟨x.1.mo m, x.2⟩
theorem gq.bad {S : Nat → Prop} {h h1 h2 : sx_H} {p : Nat} {q : rE} (x : gq S h h1 p) (y : bR S h1 h2 q) : bR S h h2 q := ⟨x.1.tr y.1, y.2.1, y.2.2.1, fun k a b c => (y.2.2.2 k a b c).trans (x.2.2 k a)⟩
theorem gq.mt {S : Nat → Prop} {h h1 : sx_H} {p n : Nat} {t : Nat → Nat} (x : gq S h h1 p) (m : mt h n t) (hS : ¬ S 41) : mt h1 n t := m.kp x.1 (x.2.2 2 (by decide)) hS
theorem f_tl {h : sx_H} {x : rE} {f : Int32 → sx_H → Prop} (H : ∀ h', bR r40 h h' x → f (nI x.1) h') : sx_X sx_w 81 0 [some (.ref 40), some (.int (nI x.1)), some (.int (nI x.2))] [] h (sx_qi f) :=
  f_tell (fun h' k a b c => H h' ⟨k, a, b, fun k _ h5 h6 => c k h5 h6⟩)
theorem f_ln {h : sx_H} {n p cnt e : Nat} {t : Nat → Nat} {f : Int32 → sx_H → Prop} (hc : 1 ≤ cnt ∧ cnt ≤ 5) (hm : mt h n t) (hp : h.1 40 30 = nI p) (hpn : p ≤ n)
    (H1 : ∀ r, rlE t n e cnt p = .inr r → p ≤ r.2 → r.2 ≤ n → (∀ i, i < cnt → gv r.1 i < 1000000000) → ∀ h', gq rLn h h' r.2 → (∀ i, i < cnt → h'.1 58 i = nI (gv r.1 i) ∧ h'.1 59 i = nI (gs r.1 i)) → f 1 h')
    (H0 : ∀ q, rlE t n e cnt p = .inl (e, q) → ∀ h', gq rLn h h' q → f 0 h') :
    sx_X sx_w 83 0 [some (.ref 40), some (.int (nI cnt)), none] [] h (sx_qi f) := by
  refine f_line hc hm hp hpn (fun l p2 hl h' k h6 ho hv => ?_) (fun q hq h' k h1 h2 => H0 q (rlE_l hq) h' ⟨k, h1, h2⟩)
  obtain ⟨g1, g2, g3⟩ := rl_ok hpn hl
  exact H1 _ (rlE_r hl) g1 g2 (fun i hi => (gv_lt hpn hl hi).1) h' ⟨k, h6, ho⟩ (fun i hi => hv i _ _ (gvs (by rw [rl_len hl]; exact hi)))
theorem f_step {h : sx_H} {n p : Nat} {t : Nat → Nat} {f : Int32 → sx_H → Prop} (hm : mt h n t) (hp : h.1 40 30 = nI p) (hpn : p ≤ n)
    (H1 : ∀ r, rsE t n p = .inr r → r.1 < 16384 → r.2 ≤ n → ∀ h', gq r40 h h' r.2 → f (nI r.1) h')
    (H0 : ∀ q, rsE t n p = .inl (5, q) → ∀ h', gq r40 h h' q → f (-1) h') : sx_X sx_w 84 0 [some (.ref 40), none, none] [] h (sx_qi f) := by
  have hn := hm.2.1
  have up : ∀ {h0 : sx_H} {q : Nat}, h0.1 40 30 = nI q → gq r40 h0 (sx_u h0.1 40 30 (h0.1 40 30 + 1), h0.2.1, h0.2.2) (q + 1) := fun {h0 q} e => ⟨kp_hw (S := r40) rfl, by dsimp only; rw [sx_u_eq, va_up_self, e, nI_1], fun k hk => by dsimp only; rw [sx_u_eq, va_up_ne _ _ hk]⟩
  refine g_84_0 h 40 ⟨rfl, f_here rfl hm hp (by omega) ?_⟩
  by_cases hpl : p < n
  · have htp := (hm.2.2 p hpl).2
    have e0 : hd t n p = nI (t p) := by unfold hd; rw [if_pos hpl]
    have u1 := up hp
    rw [e0]
    refine ⟨fun _ => ⟨rfl, ⟨rfl, rfl⟩, pk_le 128 (t p) (fun z => ⟨rfl, ?_⟩) (fun z => ?_)⟩, fun z => absurd (nI_pos' (by omega)) z⟩
    · refine f_here rfl (u1.mt hm (by unfold r40; decide)) u1.2.1 (by omega) (f_in (fun y => ⟨fun _ => ⟨rfl, ⟨rfl, rfl⟩, by decide, ?_⟩, fun q => absurd q (by decide)⟩) (fun y => ⟨fun q => absurd rfl q, fun _ => ?_⟩))
      · have hp2 : p + 1 < n := by
          refine Classical.byContradiction (fun q => ?_)
          have : hd t n (p + 1) = -1 := by unfold hd; rw [if_neg q]
          rw [this] at y
          exact absurd y.1 (by decide)
        have ht2 := (hm.2.2 _ hp2).2
        have e2 : hd t n (p + 1) = nI (t (p + 1)) := by unfold hd; rw [if_pos hp2]
        rw [e2] at y ⊢
        have y1 : 1 ≤ t (p + 1) := (nI_leI (a := 1) (by decide) (by omega)).mp y.1
        have y2 : t (p + 1) ≤ 127 := (nI_leI (b := 127) (by omega) (by decide)).mp y.2
        have ev : 128 * nI (t (p + 1)) + (nI (t p) - nI (t p) / 128 * 128) = nI (t p - 128 + 128 * t (p + 1)) := by
          rw [show nI (t p) - nI (t p) / 128 * 128 = nI (t p % 128) from pk_rem (d := 128) (by omega) (by decide) (by decide), show (128 : Int32) * nI (t (p + 1)) = nI (128 * t (p + 1)) from pk_mul 128 _, nI_add, show 128 * t (p + 1) + t p % 128 = t p - 128 + 128 * t (p + 1) by omega]
        rw [ev]
        have hr : rs t n p = .inr (t p - 128 + 128 * t (p + 1), p + 2) := by unfold rs; rw [if_pos hpl, if_neg (by omega), if_pos (by omega)]
        exact H1 _ (rsE_r hr) (by show _ < 16384; omega) (by show p + 2 ≤ n; omega) _ (u1.tr (up u1.2.1))
      · refine H0 (p + 1) (rsE_l ?_) _ u1
        unfold rs
        rw [if_pos hpl, if_neg (by omega), if_neg]
        intro q
        have e2 : hd t n (p + 1) = nI (t (p + 1)) := by unfold hd; rw [if_pos q.1]
        rw [e2] at y
        exact y ⟨nI_le (a := 1) q.2.1 (by omega), nI_le (b := 127) (by omega) (by decide)⟩
    · have hr : rs t n p = .inr (t p, p + 1) := by unfold rs; rw [if_pos hpl, if_pos (by omega)]
      exact H1 _ (rsE_r hr) (by show t p < _; omega) hpl _ u1
  · have e0 : hd t n p = -1 := by unfold hd; rw [if_neg hpl]
    rw [e0]
    exact ⟨fun z => absurd z (by decide), fun _ => H0 p (rsE_l (by unfold rs; rw [if_neg hpl])) h ⟨kp.rf, hp, fun _ _ => rfl⟩⟩
def kdv (L : List Nat) (G : List gt) (v : Nat) : Nat := if v = 0 then 3 else if ∀ x ∈ L, x / 2 ≠ v then (if ∀ g ∈ G, g.1 / 2 ≠ v then 0 else 2) else 1
theorem kdv_le (L : List Nat) (G : List gt) (v : Nat) : kdv L G v ≤ 3 := by unfold kdv; (repeat' split) <;> omega
theorem kdv_0 {L : List Nat} {G : List gt} {v : Nat} : kdv L G v = 0 ↔ (v ≠ 0 ∧ fr L G v) := by
  unfold kdv
  by_cases h0 : v = 0
  · rw [if_pos h0]; exact ⟨fun z => absurd z (by decide), fun z => absurd h0 z.1⟩
  · rw [if_neg h0]
    by_cases h1 : ∀ x ∈ L, x / 2 ≠ v
    · rw [if_pos h1]
      by_cases h2 : ∀ g ∈ G, g.1 / 2 ≠ v
      · rw [if_pos h2]; exact ⟨fun _ => ⟨h0, h1, h2⟩, fun _ => rfl⟩
      · rw [if_neg h2]; exact ⟨fun z => absurd z (by decide), fun z => absurd z.2.2 h2⟩
    · rw [if_neg h1]; exact ⟨fun z => absurd z (by decide), fun z => absurd z.2.1 h1⟩
theorem kdv_inp {L : List Nat} {G : List gt} {x v : Nat} (h : fr L G (x / 2)) (h0 : x / 2 ≠ 0) : kdv (L ++ [x]) G v = if v = x / 2 then 1 else kdv L G v := by
  unfold kdv
  by_cases e : v = x / 2
  · rw [if_pos e, if_neg (by omega), if_neg (fun q => q x (List.mem_append_right _ (List.mem_singleton.mpr rfl)) e.symm)]
  · rw [if_neg e]
    have iff : (∀ y ∈ L ++ [x], y / 2 ≠ v) ↔ ∀ y ∈ L, y / 2 ≠ v := ⟨fun q y hy => q y (List.mem_append_left _ hy), fun q y hy => (List.mem_append.mp hy).elim (q y) (fun z => by rw [List.mem_singleton.mp z]; exact fun q => e q.symm)⟩
    by_cases h1 : ∀ y ∈ L, y / 2 ≠ v
    · rw [if_pos h1, if_pos (iff.mpr h1)]
    · rw [if_neg h1, if_neg (fun q => h1 (iff.mp q))]
theorem kdv_gat {L : List Nat} {G : List gt} {g : gt} {v : Nat} (h : ∀ x ∈ L, x / 2 ≠ g.1 / 2) (h0 : g.1 / 2 ≠ 0) : kdv L (G ++ [g]) v = if v = g.1 / 2 then 2 else kdv L G v := by
  unfold kdv
  by_cases e : v = g.1 / 2
  · rw [if_pos e, if_neg (by omega), if_pos (by rw [e]; exact h), if_neg (fun q => q g (List.mem_append_right _ (List.mem_singleton.mpr rfl)) e.symm)]
  · rw [if_neg e]
    have iff : (∀ y ∈ G ++ [g], y.1 / 2 ≠ v) ↔ ∀ y ∈ G, y.1 / 2 ≠ v := ⟨fun q y hy => q y (List.mem_append_left _ hy), fun q y hy => (List.mem_append.mp hy).elim (q y) (fun z => by rw [List.mem_singleton.mp z]; exact fun q => e q.symm)⟩
    by_cases h1 : ∀ y ∈ G, y.1 / 2 ≠ v
    · rw [if_pos h1, if_pos (iff.mpr h1)]
    · rw [if_neg h1, if_neg (fun q => h1 (iff.mp q))]
def rN (h : sx_H) (M I O A : Nat) (L OU : List Nat) (G : List gt) : Prop :=
  (h.1 40 17 = nI M ∧ h.1 40 18 = nI I ∧ h.1 40 19 = nI A ∧ h.1 40 20 = nI O) ∧ (∀ i x, L[i]? = some x → h.1 49 i = nI x) ∧ (∀ i x, OU[i]? = some x → h.1 50 i = nI x) ∧
  (∀ k g, G[k]? = some g → h.1 51 k = nI g.1 ∧ h.1 52 k = nI (gM g) ∧ h.1 53 k = nI (gm g)) ∧ ∀ v, v ≤ 1000 → h.1 54 v = nI (kdv L G v)
theorem rN.kp {h h' : sx_H} {M I O A p : Nat} {L OU : List Nat} {G : List gt} (x : rN h M I O A L OU G) (k : gq rLn h h' p) : rN h' M I O A L OU G := by
  have e : ∀ j, 49 ≤ j → j ≤ 54 → h'.1 j = h.1 j := fun j h1 h2 => k.1.i (by unfold rLn; omega)
  unfold rN
  rw [k.2.2 17 (by decide), k.2.2 18 (by decide), k.2.2 19 (by decide), k.2.2 20 (by decide), e 49 (by decide) (by decide), e 50 (by decide) (by decide), e 51 (by decide) (by decide), e 52 (by decide) (by decide), e 53 (by decide) (by decide), e 54 (by decide) (by decide)]
  exact x
theorem f_may {sh : sx_S} {h : sx_H} {M m : Nat} {f : Int32 → sx_H → Prop} (hs : sh.1 = sx_shp) (hM : h.1 40 17 = nI M) (hM' : M ≤ 1000) (hm : m < 2 ^ 31) (H1 : m ≤ 2 * M + 1 → f 1 h) (H0 : ¬ m ≤ 2 * M + 1 → f 0 h) : sx_X sh 85 0 [some (.ref 40), some (.int (nI m))] [] h (sx_qi f) := by
  refine g_85_0 h 40 _ ⟨by rw [hs]; rfl, ?_⟩
  have e : (2 : Int32) * nI M + 2 = nI (2 * M + 2) := by rw [show (2 : Int32) * nI M = nI (2 * M) from pk_mul 2 M, show nI (2 * M) + 2 = nI (2 * M + 2) from nI_add _ 2]
  rw [hM, e]
  exact pk_le (2 * M + 2) m (fun z => ⟨Or.inl rfl, H0 (by omega)⟩) (fun z => ⟨Or.inr rfl, H1 (by omega)⟩)
theorem half_nI {m : Nat} (h : m < 2 ^ 31) : nI m / 2 = nI (m / 2) := pk_div (d := 2) h (by decide) (by decide)
theorem rem2_nI {m : Nat} (h : m < 2 ^ 31) : nI m - nI m / 2 * 2 = nI (m % 2) := pk_rem (d := 2) h (by decide) (by decide)
theorem f_mayBegin {sh : sx_S} {h : sx_H} {M I O A m : Nat} {L OU : List Nat} {G : List gt} {f : Int32 → sx_H → Prop} (hs : sh.1 = sx_shp) (hr : rN h M I O A L OU G) (hM' : M ≤ 1000) (hm : m < 2 ^ 31) (H1 : tkL M L G m → f 1 h) (H0 : ¬ tkL M L G m → f 0 h) : sx_X sh 86 0 [some (.ref 40), some (.int (nI m))] [] h (sx_qi f) := by
  have s0 : (sh.1 40).1 = 11 := by rw [hs]; rfl
  refine g_86_0 h 40 _ (pk_le (y := 1) m 1 (fun z => ⟨Or.inl rfl, H0 (fun q => by have := q.2.1; omega)⟩) (fun z => ⟨by decide, ?_⟩))
  rw [rem2_nI hm, half_nI hm]
  refine pk_en (y := 0) (m % 2) 0 (fun z1 => ⟨Or.inl rfl, H0 (fun q => z1 q.2.2.1)⟩) (fun z1 => ⟨s0, f_may hs hr.1.1 hM' hm (fun z2 => ⟨fun y => absurd y (by decide), fun _ => ⟨s0, by decide, ?_⟩⟩) (fun z2 => ⟨fun _ => ⟨Or.inl rfl, H0 (fun q => z2 q.1)⟩, fun y => absurd rfl y⟩)⟩)
  refine ⟨⟨by rw [hs]; rfl, by rw [hs]; exact vp_in_nI (N := 1001) (by omega) (by decide)⟩, ?_⟩
  rw [nI_clamp (by omega), show h.1 (40 + 14) (m / 2) = _ from hr.2.2.2.2 (m / 2) (by omega)]
  have := kdv_le L G (m / 2)
  refine pk_en (y := 0) (kdv L G (m / 2)) 0 (fun z3 => ⟨Or.inl rfl, H0 (fun q => z3 (kdv_0.mpr ⟨by omega, q.2.2.2⟩))⟩) (fun z3 => ⟨Or.inr rfl, H1 ⟨z2, z, z1, (kdv_0.mp z3).2⟩⟩)
theorem f_sets {h : sx_H} {M I O A x y z : Nat} {L OU : List Nat} {G : List gt} {f : sx_H → Prop} (hr : rN h M I O A L OU G) (hG : G.length < 300) (hx : 1 < x ∧ x ≤ 2001) (hL : ∀ a ∈ L, a / 2 ≠ x / 2) (hy : y < 2 ^ 31) (hz : z < 2 ^ 31)
    (H : ∀ h', kp (fun b => 51 ≤ b ∧ b ≤ 54) h h' → rN h' M I O A L OU (G ++ [(x, y, z)]) → f h') : sx_X sx_w 90 0 [some (.ref 40), some (.int (nI G.length)), some (.int (nI x)), some (.int (nI y)), some (.int (nI z))] [] h (sx_qv f) := by
  obtain ⟨r0, r1, r2, r3, r4⟩ := hr
  have v1 : vp_in (nI G.length) 300 := vp_in_nI hG (by decide)
  have v2 : vp_in (nI x / 2) 1001 := by rw [half_nI (by omega)]; exact vp_in_nI (by omega) (by decide)
  have fin : ∀ (a b : Int32), a = nI (gM (x, y, z)) → b = nI (gm (x, y, z)) → f (sx_u (sx_u (sx_u (sx_u h.1 (40 + 11) (Int32.toNatClampNeg (nI G.length)) (nI x)) (40 + 12) (Int32.toNatClampNeg (nI G.length)) a) (40 + 13) (Int32.toNatClampNeg (nI G.length)) b) (40 + 14) (Int32.toNatClampNeg (nI x / 2)) 2, h.2.1, h.2.2) := fun a b ha hb => by
    rw [nI_clamp (by omega), half_nI (by omega), nI_clamp (by omega), ha, hb]
    refine H _ (((kp_hw (S := fun b => 51 ≤ b ∧ b ≤ 54) (a := 51) (by decide)).tr (kp_hw (S := fun b => 51 ≤ b ∧ b ≤ 54) (a := 52) (by decide))).tr ((kp_hw (S := fun b => 51 ≤ b ∧ b ≤ 54) (a := 53) (by decide)).tr (kp_hw (S := fun b => 51 ≤ b ∧ b ≤ 54) (a := 54) (by decide)))) ⟨?_, ?_, ?_, fun k g hk => ?_, fun v hv => ?_⟩
    · dsimp only
      rw [sx_u_ne (by decide), sx_u_ne (by decide), sx_u_ne (by decide), sx_u_ne (by decide)]; exact r0
    · dsimp only
      rw [sx_u_ne (by decide), sx_u_ne (by decide), sx_u_ne (by decide), sx_u_ne (by decide)]; exact r1
    · dsimp only
      rw [sx_u_ne (by decide), sx_u_ne (by decide), sx_u_ne (by decide), sx_u_ne (by decide)]; exact r2
    · dsimp only
      show sx_u (sx_u (sx_u (sx_u h.1 51 G.length (nI x)) 52 G.length _) 53 G.length _) 54 (x / 2) 2 51 k = _ ∧ sx_u (sx_u (sx_u (sx_u h.1 51 G.length (nI x)) 52 G.length _) 53 G.length _) 54 (x / 2) 2 52 k = _ ∧ sx_u (sx_u (sx_u (sx_u h.1 51 G.length (nI x)) 52 G.length _) 53 G.length _) 54 (x / 2) 2 53 k = _
      rw [sx_u_ne (b := 51) (by decide), sx_u_ne (b := 51) (by decide), sx_u_ne (b := 51) (by decide), sx_u_eq, sx_u_ne (b := 52) (by decide), sx_u_ne (b := 52) (by decide), sx_u_eq, sx_u_ne (b := 52) (by decide), sx_u_ne (b := 53) (by decide), sx_u_eq, sx_u_ne (b := 53) (by decide), sx_u_ne (b := 53) (by decide)]
      rcases get_app hk with ⟨z1, z2⟩ | ⟨z1, z2⟩
      · rw [va_up_ne _ _ (by omega), va_up_ne _ _ (by omega), va_up_ne _ _ (by omega)]; exact r3 k g z2
      · rw [z1, z2, va_up_self, va_up_self, va_up_self]; exact ⟨rfl, rfl, rfl⟩
    · dsimp only
      show sx_u (sx_u (sx_u (sx_u h.1 51 G.length (nI x)) 52 G.length _) 53 G.length _) 54 (x / 2) 2 54 v = _
      rw [sx_u_eq, sx_u_ne (b := 54) (by decide), sx_u_ne (b := 54) (by decide), sx_u_ne (b := 54) (by decide), kdv_gat (g := (x, y, z)) hL (show x / 2 ≠ 0 by omega)]
      by_cases e : v = x / 2
      · rw [e, va_up_self, if_pos rfl]; rfl
      · rw [va_up_ne _ _ e, if_neg e]; exact r4 v hv
  refine g_90_0 h 40 _ _ _ _ ⟨rfl, ⟨rfl, rfl, v1⟩, rfl, pk_le y z (fun q => ⟨⟨rfl, rfl, v1⟩, rfl, pk_le y z (fun _ => ⟨⟨rfl, rfl, v1⟩, rfl, by decide, ⟨rfl, rfl, v2⟩, fin _ _ ?_ ?_⟩) (fun q2 => (by omega))⟩) (fun q => ⟨⟨rfl, rfl, v1⟩, rfl, pk_le y z (fun q2 => (by omega)) (fun _ => ⟨⟨rfl, rfl, v1⟩, rfl, by decide, ⟨rfl, rfl, v2⟩, fin _ _ ?_ ?_⟩)⟩)⟩
  · congr 1; show z = max y z; omega
  · congr 1; show y = min y z; omega
  · congr 1; show y = max y z; omega
  · congr 1; show z = min y z; omega
