-- THE CLASS READS: the first line, the end, the whole text
theorem e_begin {h : sx_H} {c M I O A : Nat} {f : sx_H → Prop} (hc : cc c)
    (H : ∀ h', kp (sC c) h h' → h'.1 1 = h.1 1 → rI h' c M I O A [] [] [] → f h') : sx_X sx_w 4 0 [some (.ref c), some (.int (nI M)), some (.int (nI I)), some (.int (nI O)), some (.int (nI A))] [] h (sx_qv f) := by
  obtain ⟨q0, q1, q2, q3, q4, q5, q6, q7, -⟩ := cc_sh hc
  have hc' := hc
  unfold cc at hc'
  refine g_4_0 h c _ _ _ _ ⟨⟨rfl, q0⟩, ⟨rfl, q0⟩, ⟨rfl, q0⟩, ⟨rfl, q0⟩, q0, ?_⟩
  generalize e1 : ((sx_u (sx_u (sx_u (sx_u h.1 c 3 (nI M)) c 0 (nI I)) c 2 (nI O)) c 1 (nI A), h.2.1, h.2.2) : sx_H) = h1
  have er : sx_u (sx_u (sx_u (sx_u h.1 c 3 (nI M)) c 0 (nI I)) c 2 (nI O)) c 1 (nI A) = h1.1 := by rw [← e1]
  have d1 : ∀ b, b ≠ c → h1.1 b = h.1 b := fun b hb => by rw [← er, sx_u_ne hb, sx_u_ne hb, sx_u_ne hb, sx_u_ne hb]
  have d1c : h1.1 c = va_up (va_up (va_up (va_up (h.1 c) 3 (nI M)) 0 (nI I)) 2 (nI O)) 1 (nI A) := by rw [← er, sx_u_eq, sx_u_eq, sx_u_eq, sx_u_eq]
  have k1 : kp (sC c) h h1 := ⟨fun b hb => ⟨d1 b (fun e => hb (by unfold sC; omega)), by rw [← e1]⟩, by rw [← e1]⟩
  refine e_fill (n := 1001) rfl q7 (by decide) (fun row7 hrow7 => ⟨q0, e_fill (n := 315) rfl q6 (by decide) (fun row6 hrow6 => ?_)⟩)
  have d : ∀ b, b ≠ c → b ≠ c + 6 → b ≠ c + 7 → (hw (hw h1 (c + 7) row7) (c + 6) row6).1 b = h.1 b := fun b hb0 hb6 hb7 => by rw [hw_ne _ _ hb6, hw_ne _ _ hb7, d1 b hb0]
  refine H _ ((k1.tr (hw_u7 (j := 7) rfl (by decide))).tr (hw_u7 (j := 6) rfl (by decide))) (d 1 (by omega) (by omega) (by omega)) ?_
  refine ⟨?_, fun i x hi => (by cases hi), fun i x hi => (by cases hi), fun k g hg => (by cases hg), fun i hi => ?_, fun v hv => Or.inr (Or.inr ⟨fun x hx => (by cases hx), fun x hx => (by cases hx), ?_⟩)⟩
  · rw [hw_ne _ _ (by omega), hw_ne _ _ (by omega), d1c]
    refine ⟨?_, ?_, ?_, ?_⟩
    · rw [va_up_ne _ _ (by decide), va_up_ne _ _ (by decide), va_up_self]
    · rw [va_up_self]
    · rw [va_up_ne _ _ (by decide), va_up_self]
    · rw [va_up_ne _ _ (by decide), va_up_ne _ _ (by decide), va_up_ne _ _ (by decide), va_up_self]
  · rw [hw_self]; exact hrow6 i hi
  · rw [hw_ne _ _ (by omega), hw_self]; exact hrow7 v (by omega)
theorem e_readFirstLine {h : sx_H} {n c : Nat} {t : Nat → Nat} {bin : Bool} {f : Int32 → sx_H → Prop} (hc : cc c) (hb : br h 2 1024 n t) (hp : h.1 1 6 = nI 4) (hpn : 4 ≤ n)
    (H1 : ∀ s, rFst t n bin = .inr s → s.2 ≤ n → szOK s.1.1 s.1.2.1 s.1.2.2.1 s.1.2.2.2 bin → ∀ h', gd (sC c) h h' s.2 → rI h' c s.1.1 s.1.2.1 s.1.2.2.1 s.1.2.2.2 [] [] [] → f 1 h')
    (H0 : ∀ x, rFst t n bin = .inl x → ∀ h', bad (sC c) h h' x → f 0 h') :
    sx_X sx_w 27 0 [some (.ref 1), some (.ref c), some (.int (if bin then 1 else 0)), none, none, none, none] [] h (sx_qi f) := by
  obtain ⟨q0, -⟩ := cc_sh hc
  refine g_27_0 h 1 c _ ⟨rfl, e_readLn (cnt := 5) (e := 2) (by decide) hb hp hpn (fun r er hq1 hq2 hv h1 g1 hn => ?_) (fun x er h1 b1 => ⟨fun y => absurd rfl y, fun _ => ⟨Or.inl rfl, ?_⟩⟩)⟩
  · have E : rFst t n bin = if gv r.1 2 = 0 then
      if szOK (gv r.1 0) (gv r.1 1) (gv r.1 3) (gv r.1 4) bin then .inr ((gv r.1 0, gv r.1 1, gv r.1 3, gv r.1 4), r.2) else .inl (4, 0) else .inl (3, 0) := by
      unfold rFst; rw [er, bnd_r]
    have v0 := hv 0 (by decide)
    have v1 := hv 1 (by decide)
    have v2 := hv 2 (by decide)
    have v3 := hv 3 (by decide)
    have v4 := hv 4 (by decide)
    refine ⟨fun _ => ⟨rfl, e_pick (a := 1 + 3) (n := 5) rfl (by decide) ⟨rfl, e_pick (a := 1 + 3) (n := 5) rfl (by decide) ⟨rfl, e_pick (a := 1 + 3) (n := 5) rfl (by decide) ⟨rfl, e_pick (a := 1 + 3) (n := 5) rfl (by decide) ⟨rfl, e_pick (a := 1 + 3) (n := 5) rfl (by decide) ?_⟩⟩⟩⟩⟩, fun y => absurd y (by decide)⟩
    rw [show pk (h1.1 (1 + 3)) 5 0 = nI (gv r.1 0) from (pk_nI (k := 0) (by decide) (by decide)).trans (hn 0 (by decide)).1, show pk (h1.1 (1 + 3)) 5 1 = nI (gv r.1 1) from (pk_nI (k := 1) (by decide) (by decide)).trans (hn 1 (by decide)).1, show pk (h1.1 (1 + 3)) 5 2 = nI (gv r.1 2) from (pk_nI (k := 2) (by decide) (by decide)).trans (hn 2 (by decide)).1, show pk (h1.1 (1 + 3)) 5 3 = nI (gv r.1 3) from (pk_nI (k := 3) (by decide) (by decide)).trans (hn 3 (by decide)).1, show pk (h1.1 (1 + 3)) 5 4 = nI (gv r.1 4) from (pk_nI (k := 4) (by decide) (by decide)).trans (hn 4 (by decide)).1]
    revert E v0 v1 v2 v3 v4
    generalize gv r.1 0 = M
    generalize gv r.1 1 = I
    generalize gv r.1 2 = Z
    generalize gv r.1 3 = O
    generalize gv r.1 4 = A
    intro E v0 v1 v2 v3 v4
    refine pk_eq (y := 0) Z 0 (fun z => ?_) (fun z => ⟨rfl, e_fail (fun h2 k2 e1 e2 => ⟨Or.inl rfl, H0 (3, 0) (by rw [E, if_neg z]) h2 ((g1.mo s145_C).bad ⟨k2.mo s1_C, e1, e2⟩)⟩)⟩)
    rw [if_pos z] at E
    have bd4 : ¬ szOK M I O A bin → sx_X sx_w 26 0 [some (.ref 1), some (.int 4), some (.int 0)] [] h1 (sx_qi fun x14 h13 => (((x14 : Int32) = 0 ∨ (x14 : Int32) = 1) ∧ sx_qi f (some (.int x14)) h13)) := fun nz =>
      e_fail (fun h2 k2 e1 e2 => ⟨Or.inl rfl, H0 (4, 0) (by rw [E, if_neg nz]) h2 ((g1.mo s145_C).bad ⟨k2.mo s1_C, e1, e2⟩)⟩)
    have gdB : szOK M I O A bin → sx_X sx_w 4 0 [some (.ref c), some (.int (nI M)), some (.int (nI I)), some (.int (nI O)), some (.int (nI A))] [] h1 (sx_qv fun h21 => (((1 : Int32) = 0 ∨ (1 : Int32) = 1) ∧ sx_qi f (some (.int 1)) h21)) := fun y => by
      rw [if_pos y] at E
      exact e_begin hc (fun h2 k2 e1 r2 => ⟨Or.inr rfl, H1 _ E hq2 y h2 ((g1.mo s145_C).tr ⟨k2, by rw [e1]; exact g1.2.1, by rw [e1], by rw [e1]⟩) r2⟩)
    refine pk_lt 1000 M (fun y1 => ⟨rfl, bd4 (by omega)⟩) (fun y1 => pk_lt 14 I (fun y2 => ⟨rfl, bd4 (by omega)⟩) (fun y2 => pk_lt 16 O (fun y3 => ⟨rfl, bd4 (by omega)⟩) (fun y3 => pk_le A 300 (fun y4 => ?_) (fun y4 => ⟨rfl, bd4 (by omega)⟩))))
    rw [nI_add]
    refine pk_lt M (I + A) (fun y5 => ⟨rfl, bd4 (by omega)⟩) (fun y5 => ?_)
    cases bin with
    | false => exact ⟨fun _ => ⟨q0, gdB ⟨by omega, by omega, by omega, by omega, by omega, fun q => by cases q⟩⟩, fun y => absurd rfl y⟩
    | true => exact ⟨fun y => absurd y (by decide), fun _ => pk_eq M (I + A) (fun y6 => ⟨q0, gdB ⟨by omega, by omega, by omega, by omega, by omega, fun _ => y6⟩⟩) (fun y6 => ⟨rfl, bd4 (fun q => y6 (q.2.2.2.2.2 rfl))⟩)⟩
  · refine H0 x ?_ h1 (b1.mo s145_C)
    unfold rFst; rw [er, bnd_l]
theorem e_readEnd {h : sx_H} {n p : Nat} {t : Nat → Nat} {f : Int32 → sx_H → Prop} (hb : br h 2 1024 n t) (hp : h.1 1 6 = nI p) (hpn : p ≤ n)
    (H1 : rnd t n p = .inr () → ∀ h', kp s1 h h' → h'.1 1 1 = h.1 1 1 → h'.1 1 2 = h.1 1 2 → f 1 h')
    (H0 : ∀ x, rnd t n p = .inl x → ∀ h', bad s1 h h' x → f 0 h') : sx_X sx_w 35 0 [some (.ref 1)] [] h (sx_qi f) := by
  have hn : n ≤ 8192 := hb.2.1
  refine g_35_0 h 1 ⟨rfl, rfl, rfl, ?_⟩
  rw [hp, show h.1 (1 + 1) 0 = nI n from hb.1]
  refine pk_lt p n (fun z => ⟨rfl, ?_⟩) (fun z => ⟨Or.inr rfl, H1 (by unfold rnd; rw [if_neg (by omega)]) h kp.rf rfl rfl⟩)
  have E : rnd t n p = if hd t n p = 99 then if hd t n (p + 1) = 10 then .inr () else .inl (5, p + 1) else .inl (5, p) := by unfold rnd; rw [if_pos z]
  refine e_readByte hb hp hpn (fun y h1 k1 h16 ho1 => ⟨fun q => absurd q (by decide), fun _ => ⟨rfl, ?_⟩⟩) (fun y h1 k1 e1 e2 => ⟨fun _ => ⟨Or.inl rfl, H0 (5, p) (by rw [E, if_neg y]) h1 ⟨k1, e1, e2⟩⟩, fun q => absurd rfl q⟩)
  rw [if_pos y] at E
  refine e_readByte (br2 hb (k1.mo s1_145)) h16 (by omega) (fun y2 h2 k2 h26 ho2 => ⟨fun q => absurd q (by decide), fun _ => ⟨Or.inr rfl, H1 (by rw [E, if_pos y2]) h2 (k1.tr k2) (by rw [ho2 1 (by decide), ho1 1 (by decide)]) (by rw [ho2 2 (by decide), ho1 2 (by decide)])⟩⟩) (fun y2 h2 k2 e1 e2 => ⟨fun _ => ⟨Or.inl rfl, H0 (5, p + 1) (by rw [E, if_neg y2]) h2 ⟨k1.tr k2, e1, e2⟩⟩, fun q => absurd rfl q⟩)
abbrev rIr (h : sx_H) (c : Nat) (r : rC) : Prop := rI h c r.1.1 r.1.2.1 r.1.2.2.1 r.1.2.2.2 r.2.1 r.2.2.1 r.2.2.2
theorem e_readInto {h : sx_H} {n c : Nat} {t : Nat → Nat} {f : Int32 → sx_H → Prop} (hc : cc c) (hb : br h 2 1024 n t)
    (H1 : ∀ r, rd t n = .inr r → ∀ h', kp (sC c) h h' → h'.1 1 1 = 0 → h'.1 1 2 = 0 → rIr h' c r → f 1 h')
    (H0 : ∀ x, rd t n = .inl x → ∀ h', kp (sC c) h h' → h'.1 1 1 = nI x.1 → h'.1 1 2 = nI x.2 → f 0 h') :
    sx_X sx_w 25 0 [some (.ref 1), some (.ref c), none, none] [] h (sx_qi f) := by
  have hn : n ≤ 8192 := hb.2.1
  refine g_25_0 h 1 c ⟨⟨rfl, rfl⟩, ⟨rfl, rfl⟩, ⟨rfl, rfl⟩, rfl, rfl, ?_⟩
  generalize e1 : ((sx_u (sx_u (sx_u h.1 1 1 0) 1 2 0) 1 6 4, h.2.1, h.2.2) : sx_H) = h1
  have er : sx_u (sx_u (sx_u h.1 1 1 0) 1 2 0) 1 6 4 = h1.1 := by rw [← e1]
  have k1 : kp s1 h h1 := ⟨fun b hb' => ⟨by rw [← er, sx_u_ne hb', sx_u_ne hb', sx_u_ne hb'], by rw [← e1]⟩, by rw [← e1]⟩
  have h16 : h1.1 1 6 = nI 4 := by rw [← er, sx_u_eq, va_up_self]; rfl
  have h11 : h1.1 1 1 = 0 := by rw [← er, sx_u_eq, va_up_ne _ _ (by decide), sx_u_eq, va_up_ne _ _ (by decide), sx_u_eq, va_up_self]
  have h12 : h1.1 1 2 = 0 := by rw [← er, sx_u_eq, va_up_ne _ _ (by decide), sx_u_eq, va_up_self]
  have hb1 : br h1 2 1024 n t := br2 hb (k1.mo s1_145)
  have hh : ∀ p x, p < 2 ^ 31 → x < 256 → (hdI t n (nI p) = nI x ↔ (p < n ∧ t p = x)) := fun p x hp hx => by
    rw [hdI_nI hp]
    unfold hd
    by_cases hpn : p < n
    · rw [if_pos hpn, nI_eq (by have := hb.lt hpn; omega) (by omega)]
      exact ⟨fun q => ⟨hpn, q⟩, fun q => q.2⟩
    · rw [if_neg hpn]
      refine ⟨fun q => absurd q (fun q => ?_), fun q => absurd q.1 hpn⟩
      have : (-1 : Int32).toInt = (nI x).toInt := by rw [q]
      rw [nI_toInt (by omega)] at this
      have h2 : (-1 : Int32).toInt = -1 := rfl
      omega
  have flt : ¬ ltr t n → sx_X sx_w 26 0 [some (.ref 1), some (.int 1), some (.int 0)] [] h1 (sx_qi fun x26 h25 => (((x26 : Int32) = 0 ∨ (x26 : Int32) = 1) ∧ sx_qi f (some (.int x26)) h25)) := fun nz =>
    e_fail (fun h2 k2 e1 e2 => ⟨Or.inl rfl, H0 (1, 0) (by unfold rd; rw [if_neg nz]) h2 ((k1.tr k2).mo s1_C) e1 e2⟩)
  have Erd : ltr t n → rd t n = bnd (rFst t n (decide (t 1 = 105))) fun s => rBody t n s.1.1 s.1.2.1 s.1.2.2.1 s.1.2.2.2 s.2 (decide (t 1 = 105)) := fun z => by unfold rd; rw [if_pos z]
  have fin : ∀ (h2 : sx_H) (r : rC) (p : Nat), gd (sC c) h1 h2 p → p ≤ n → rIr h2 c r → rd t n = (bnd (rnd t n p) fun _ => .inr r) → sx_X sx_w 35 0 [some (.ref 1)] [] h2 (sx_qi fun x38 h37 => (((x38 : Int32) = 0 → (((0 : Int32) = 0 ∨ (0 : Int32) = 1) ∧ sx_qi f (some (.int 0)) h37)) ∧ (¬ (x38 : Int32) = 0 → (((1 : Int32) = 0 ∨ (1 : Int32) = 1) ∧ sx_qi f (some (.int 1)) h37)))) := by
    intro h2 r p g2 hp2 r2 E
    refine e_readEnd (br2C hb1 hc g2.1) g2.2.1 hp2 (fun q h3 k3 e1 e2 => ⟨fun y => absurd y (by decide), fun _ => ⟨Or.inr rfl, ?_⟩⟩) (fun x q h3 b3 => ⟨fun _ => ⟨Or.inl rfl, ?_⟩, fun y => absurd rfl y⟩)
    · rw [q, bnd_r] at E
      exact H1 r E h3 ((k1.mo s1_C).tr (g2.1.tr (k3.mo s1_C))) (by rw [e1, g2.2.2.1]; exact h11) (by rw [e2, g2.2.2.2]; exact h12) (r2.kp hc (k3.mo s1_145))
    · rw [q, bnd_l] at E
      exact H0 x E h3 ((k1.mo s1_C).tr (g2.1.tr (b3.1.mo s1_C))) b3.2.1 b3.2.2
  have goD : ltr t n → t 1 = 97 → sx_X sx_w 27 0 [some (.ref 1), some (.ref c), some (.int 0), none, none, none, none] [] h1 (sx_qi fun x34 h33 => (((x34 : Int32) = 0 → (((0 : Int32) = 0 ∨ (0 : Int32) = 1) ∧ sx_qi f (some (.int 0)) h33)) ∧ (¬ (x34 : Int32) = 0 → (((0 : Int32) = 0 → ((sx_w.1 1).1 = 6 ∧ sx_X sx_w 28 0 [some (.ref 1), some (.ref c), none] [] h33 (sx_qi fun x36 h35 => (((x36 : Int32) = 0 → (((0 : Int32) = 0 ∨ (0 : Int32) = 1) ∧ sx_qi f (some (.int 0)) h35)) ∧ (¬ (x36 : Int32) = 0 → ((sx_w.1 1).1 = 6 ∧ sx_X sx_w 35 0 [some (.ref 1)] [] h35 (sx_qi fun x38 h37 => (((x38 : Int32) = 0 → (((0 : Int32) = 0 ∨ (0 : Int32) = 1) ∧ sx_qi f (some (.int 0)) h37)) ∧ (¬ (x38 : Int32) = 0 → (((1 : Int32) = 0 ∨ (1 : Int32) = 1) ∧ sx_qi f (some (.int 1)) h37)))))))))) ∧ (¬ (0 : Int32) = 0 → ((sx_w.1 1).1 = 6 ∧ sx_X sx_w 29 0 [some (.ref 1), some (.ref c), none] [] h33 (sx_qi fun x40 h39 => (((x40 : Int32) = 0 → (((0 : Int32) = 0 ∨ (0 : Int32) = 1) ∧ sx_qi f (some (.int 0)) h39)) ∧ (¬ (x40 : Int32) = 0 → ((sx_w.1 1).1 = 6 ∧ sx_X sx_w 35 0 [some (.ref 1)] [] h39 (sx_qi fun x42 h41 => (((x42 : Int32) = 0 → (((0 : Int32) = 0 ∨ (0 : Int32) = 1) ∧ sx_qi f (some (.int 0)) h41)) ∧ (¬ (x42 : Int32) = 0 → (((1 : Int32) = 0 ∨ (1 : Int32) = 1) ∧ sx_qi f (some (.int 1)) h41)))))))))))))) := by
    intro zl z1
    have E := Erd zl
    rw [show (decide (t 1 = 105)) = false from decide_eq_false (by omega)] at E
    refine e_readFirstLine (bin := false) hc hb1 h16 (by omega) (fun s es hs1 hsz h2 g2 r2 => ⟨fun y => absurd y (by decide), fun _ => ⟨fun _ => ⟨rfl, ?_⟩, fun y => absurd rfl y⟩⟩) (fun x ex h2 b2 => ⟨fun _ => ⟨Or.inl rfl, ?_⟩, fun y => absurd rfl y⟩)
    · rw [es, bnd_r] at E
      refine e_readDecimal hc (br2C hb1 hc g2.1) g2.2.1 hs1 r2 hsz.1 hsz.2.1 hsz.2.2.1 hsz.2.2.2.1 (fun a b g ea eb eg hg h3 g3 r3 => ⟨fun y => absurd y (by decide), fun _ => ⟨rfl, ?_⟩⟩) (fun x ex h3 b3 => ⟨fun _ => ⟨Or.inl rfl, ?_⟩, fun y => absurd rfl y⟩)
      · refine fin h3 (s.1, a.1, b.1, g.1) g.2 (g2.tr g3) hg r3 ?_
        rw [E]
        unfold rBody rIn rGt
        simp only [cond_false]
        rw [ea, bnd_r, eb, bnd_r, eg, bnd_r]
      · refine H0 x ?_ h3 ((k1.mo s1_C).tr (g2.1.tr b3.1)) b3.2.1 b3.2.2
        rw [E]
        unfold rBody rIn rGt
        simp only [cond_false]
        revert ex
        cases ri t n s.1.1 s.1.2.1 s.2 [] with
        | inl e => exact fun ex => by cases ex; rfl
        | inr a =>
          rw [bnd_r, bnd_r]
          cases ro t n s.1.1 s.1.2.2.1 a.2 [] with
          | inl e => exact fun ex => by cases ex; rfl
          | inr b =>
            rw [bnd_r, bnd_r]
            intro ex
            rw [ex, bnd_l]
    · rw [ex, bnd_l] at E
      exact H0 x E h2 ((k1.mo s1_C).tr b2.1) b2.2.1 b2.2.2
  have goB : ltr t n → t 1 = 105 → sx_X sx_w 27 0 [some (.ref 1), some (.ref c), some (.int 1), none, none, none, none] [] h1 (sx_qi fun x34 h33 => (((x34 : Int32) = 0 → (((0 : Int32) = 0 ∨ (0 : Int32) = 1) ∧ sx_qi f (some (.int 0)) h33)) ∧ (¬ (x34 : Int32) = 0 → (((1 : Int32) = 0 → ((sx_w.1 1).1 = 6 ∧ sx_X sx_w 28 0 [some (.ref 1), some (.ref c), none] [] h33 (sx_qi fun x36 h35 => (((x36 : Int32) = 0 → (((0 : Int32) = 0 ∨ (0 : Int32) = 1) ∧ sx_qi f (some (.int 0)) h35)) ∧ (¬ (x36 : Int32) = 0 → ((sx_w.1 1).1 = 6 ∧ sx_X sx_w 35 0 [some (.ref 1)] [] h35 (sx_qi fun x38 h37 => (((x38 : Int32) = 0 → (((0 : Int32) = 0 ∨ (0 : Int32) = 1) ∧ sx_qi f (some (.int 0)) h37)) ∧ (¬ (x38 : Int32) = 0 → (((1 : Int32) = 0 ∨ (1 : Int32) = 1) ∧ sx_qi f (some (.int 1)) h37)))))))))) ∧ (¬ (1 : Int32) = 0 → ((sx_w.1 1).1 = 6 ∧ sx_X sx_w 29 0 [some (.ref 1), some (.ref c), none] [] h33 (sx_qi fun x40 h39 => (((x40 : Int32) = 0 → (((0 : Int32) = 0 ∨ (0 : Int32) = 1) ∧ sx_qi f (some (.int 0)) h39)) ∧ (¬ (x40 : Int32) = 0 → ((sx_w.1 1).1 = 6 ∧ sx_X sx_w 35 0 [some (.ref 1)] [] h39 (sx_qi fun x42 h41 => (((x42 : Int32) = 0 → (((0 : Int32) = 0 ∨ (0 : Int32) = 1) ∧ sx_qi f (some (.int 0)) h41)) ∧ (¬ (x42 : Int32) = 0 → (((1 : Int32) = 0 ∨ (1 : Int32) = 1) ∧ sx_qi f (some (.int 1)) h41)))))))))))))) := by
    intro zl z1
    have E := Erd zl
    rw [show (decide (t 1 = 105)) = true from decide_eq_true z1] at E
    refine e_readFirstLine (bin := true) hc hb1 h16 (by omega) (fun s es hs1 hsz h2 g2 r2 => ⟨fun y => absurd y (by decide), fun _ => ⟨fun y => absurd y (by decide), fun _ => ⟨rfl, ?_⟩⟩⟩) (fun x ex h2 b2 => ⟨fun _ => ⟨Or.inl rfl, ?_⟩, fun y => absurd rfl y⟩)
    · rw [es, bnd_r] at E
      refine e_readBinary hc (br2C hb1 hc g2.1) g2.2.1 hs1 r2 hsz.1 hsz.2.1 hsz.2.2.1 hsz.2.2.2.1 (fun b g eb eg hg h3 g3 r3 => ⟨fun y => absurd y (by decide), fun _ => ⟨rfl, ?_⟩⟩) (fun x ex h3 b3 => ⟨fun _ => ⟨Or.inl rfl, ?_⟩, fun y => absurd rfl y⟩)
      · refine fin h3 (s.1, bI s.1.2.1, b.1, g.1) g.2 (g2.tr g3) hg r3 ?_
        rw [E]
        unfold rBody rIn rGt
        simp only [cond_true]
        rw [bnd_r, eb, bnd_r, eg, bnd_r]
      · refine H0 x ?_ h3 ((k1.mo s1_C).tr (g2.1.tr b3.1)) b3.2.1 b3.2.2
        rw [E]
        unfold rBody rIn rGt
        simp only [cond_true]
        rw [bnd_r]
        revert ex
        cases ro t n s.1.1 s.1.2.2.1 s.2 [] with
        | inl e => exact fun ex => by cases ex; rfl
        | inr b =>
          rw [bnd_r, bnd_r]
          intro ex
          rw [ex, bnd_l]
    · rw [ex, bnd_l] at E
      exact H0 x E h2 ((k1.mo s1_C).tr b2.1) b2.2.1 b2.2.2
  have B : ∀ {p : Int32} {ff : Int32 → sx_H → Prop}, ff (hdI t n p) h1 → sx_X sx_w 3 0 [some (.ref (1 + 1)), some (.int p), none] [] h1 (sx_qi ff) := fun H => e_byteAt (a := 1 + 1) rfl rfl (Nat.le_refl _) hb1 H
  refine B ⟨fun y1 => ⟨rfl, rfl, B ⟨fun y0 => ⟨rfl, flt (fun q => y0 ((hh 0 97 (by decide) (by decide)).mpr ⟨by omega, q.2.1⟩))⟩, fun y0 => ⟨fun y => absurd rfl y, fun _ => ⟨fun y97 => ⟨rfl, flt (fun q => ?_)⟩, fun y97 => ⟨rfl, rfl, B ⟨fun y2 => ⟨rfl, flt (fun q => y2 ((hh 2 103 (by decide) (by decide)).mpr ⟨by omega, q.2.2.2.1⟩))⟩, fun y2 => ⟨rfl, rfl, B ⟨fun y3 => ⟨rfl, ?_⟩, fun y3 => ⟨rfl, flt (fun q => y3 ((hh 3 32 (by decide) (by decide)).mpr ⟨by omega, q.2.2.2.2⟩))⟩⟩⟩⟩⟩⟩⟩⟩⟩, fun y1 => ⟨rfl, rfl, B ⟨fun y0 => ⟨rfl, flt (fun q => y0 ((hh 0 97 (by decide) (by decide)).mpr ⟨by omega, q.2.1⟩))⟩, fun y0 => ⟨fun _ => ⟨rfl, rfl, B ⟨fun y2 => ⟨rfl, flt (fun q => y2 ((hh 2 103 (by decide) (by decide)).mpr ⟨by omega, q.2.2.2.1⟩))⟩, fun y2 => ⟨rfl, rfl, B ⟨fun y3 => ⟨rfl, ?_⟩, fun y3 => ⟨rfl, flt (fun q => y3 ((hh 3 32 (by decide) (by decide)).mpr ⟨by omega, q.2.2.2.2⟩))⟩⟩⟩⟩⟩, fun y => absurd y (by decide)⟩⟩⟩⟩
  · rcases q.2.2.1 with q1 | q1
    · exact y97 ((hh 1 97 (by decide) (by decide)).mpr ⟨by omega, q1⟩)
    · exact y1 ((hh 1 105 (by decide) (by decide)).mpr ⟨by omega, q1⟩)
  · have a0 := (hh 0 97 (by decide) (by decide)).mp y0
    have a1 := (hh 1 97 (by decide) (by decide)).mp y97
    have a2 := (hh 2 103 (by decide) (by decide)).mp y2
    have a3 := (hh 3 32 (by decide) (by decide)).mp y3
    exact goD ⟨a3.1, a0.2, Or.inl a1.2, a2.2, a3.2⟩ a1.2
  · have a0 := (hh 0 97 (by decide) (by decide)).mp y0
    have a1 := (hh 1 105 (by decide) (by decide)).mp y1
    have a2 := (hh 2 103 (by decide) (by decide)).mp y2
    have a3 := (hh 3 32 (by decide) (by decide)).mp y3
    exact goB ⟨a3.1, a0.2, Or.inr a1.2, a2.2, a3.2⟩ a1.2
