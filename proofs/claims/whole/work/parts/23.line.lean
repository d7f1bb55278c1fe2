theorem s145_4 {h h' : sx_H} (k : kp s1 h h') : h'.1 4 = h.1 4 ∧ h'.1 5 = h.1 5 := ⟨k.i (by unfold s1; decide), k.i (by unfold s1; decide)⟩
theorem e_readLine {h : sx_H} {n p cnt : Nat} {t : Nat → Nat} {w : Int32} {f : Int32 → sx_H → Prop} (hc : cnt ≤ 5) (hb : br h 2 1024 n t) (hp : h.1 1 6 = nI p) (hpn : p ≤ n)
    (H1 : ∀ l p2, rl t n cnt p = .inr (l, p2) → ∀ h', kp s145 h h' → h'.1 1 6 = nI p2 → (∀ k, k ≠ 6 → h'.1 1 k = h.1 1 k) → (∀ i v s, l[i]? = some (v, s) → h'.1 4 i = nI v ∧ h'.1 5 i = nI s) → f 1 h')
    (H0 : ∀ q, rl t n cnt p = .inl q → ∀ h', kp s145 h h' → h'.1 1 1 = w → h'.1 1 2 = nI q → f 0 h') :
    sx_X sx_w 36 0 [some (.ref 1), some (.int (nI cnt)), some (.int w), none] [] h (sx_qi f) := by
  have hn : n ≤ 8192 := hb.2.1
  have key : ∀ (c i : Nat), i + c = cnt → ∀ (h0 : sx_H) (q : Nat), q ≤ n → kp s145 h h0 → h0.1 1 6 = nI q → (∀ k, k ≠ 6 → h0.1 1 k = h.1 1 k) →
      (∀ l p2, rl t n c q = .inr (l, p2) → ∀ h', kp s145 h h' → h'.1 1 6 = nI p2 → (∀ k, k ≠ 6 → h'.1 1 k = h.1 1 k) → (∀ z, z < i → h'.1 4 z = h0.1 4 z ∧ h'.1 5 z = h0.1 5 z) → (∀ z v s, l[z]? = some (v, s) → h'.1 4 (i + z) = nI v ∧ h'.1 5 (i + z) = nI s) → f 1 h') →
      (∀ e, rl t n c q = .inl e → ∀ h', kp s145 h h' → h'.1 1 1 = w → h'.1 1 2 = nI e → f 0 h') →
      sx_X sx_w 36 2 [some (.ref 1), some (.int (nI cnt)), some (.int w), some (.int (nI i))] [] h0 (sx_qi f) := by
    intro c
    induction c with
    | zero =>
      intro i hi h0 q hq k0 hq6 ho K1 K0
      refine g_36_2 h0 1 _ _ _ ⟨fun _ => ⟨Or.inr rfl, ?_⟩, fun z => absurd (nI_le (by omega) (by omega)) z⟩
      exact K1 [] q rfl h0 k0 hq6 ho (fun z _ => ⟨rfl, rfl⟩) (fun z v s hz => by cases hz)
    | succ c ih =>
      intro i hi h0 q hq k0 hq6 ho K1 K0
      refine g_36_2 h0 1 _ _ _ ⟨fun z => absurd z (nI_ge (by omega) (by omega)), fun _ => ⟨rfl, rfl, ?_⟩⟩
      refine e_store (a := 1 + 4) (n := 5) rfl rfl (by decide) ?_
      rw [hq6, st_nI (by omega) (by decide)]
      generalize e1 : hw h0 (1 + 4) (va_up (h0.1 (1 + 4)) i (nI q)) = h1
      have k1 : kp s145 h h1 := by rw [← e1]; exact k0.tr (kp_hw (S := s145) (Or.inr (Or.inr rfl)))
      have h11 : h1.1 1 = h0.1 1 := by rw [← e1]; exact hw_ne _ _ (by decide)
      have h14 : h1.1 4 = h0.1 4 := by rw [← e1]; exact hw_ne _ _ (by decide)
      have h15 : h1.1 5 = va_up (h0.1 5) i (nI q) := by rw [← e1]; exact hw_self _ _ _
      have hb1 : br h1 2 1024 n t := br2 hb k1
      refine ⟨rfl, rfl, rfl, ?_⟩
      rw [h11, hq6]
      refine e_byteAt (a := 1 + 1) rfl rfl (Nat.le_refl _) hb1 ?_
      rw [hdI_nI (by omega)]
      refine e_isDigit (fun z => ⟨fun _ => ⟨rfl, rfl, ?_⟩, fun y => absurd y (by decide)⟩) (fun z => ⟨fun y => absurd rfl y, fun _ => ⟨rfl, rfl, ?_⟩⟩)
      · have hdq : dg t n q := (hd_dg (fun hh => hb1.lt hh)).mp z
        refine e_readDigits hb1 (by rw [h11]; exact hq6) hdq.1 (fun h6 k6 h66 ho6 => ?_)
        refine e_store (a := 1 + 3) (n := 5) rfl rfl (by decide) ?_
        rw [st_nI (by omega) (by decide)]
        generalize e8 : hw h6 (1 + 3) (va_up (h6.1 (1 + 3)) i (nI (num t n q).2)) = h8
        have k8 : kp s145 h h8 := by rw [← e8]; exact (k1.tr (k6.mo s1_145)).tr (kp_hw (S := s145) (Or.inr (Or.inl rfl)))
        have h81 : h8.1 1 = h6.1 1 := by rw [← e8]; exact hw_ne _ _ (by decide)
        have h84 : h8.1 4 = va_up (h0.1 4) i (nI (num t n q).2) := by
          rw [← e8]
          show (hw h6 4 _).1 4 = _
          rw [hw_self]
          show va_up (h6.1 4) _ _ = _
          rw [(s145_4 k6).1, h14]
        have h85 : h8.1 5 = va_up (h0.1 5) i (nI q) := by
          rw [← e8]
          show (hw h6 4 _).1 5 = _
          rw [hw_ne _ _ (by decide), (s145_4 k6).2, h15]
        have hb8 : br h8 2 1024 n t := br2 hb k8
        have hnp := num_pos t (n := n) (p := q) hq
        have ho8 : ∀ k, k ≠ 6 → h8.1 1 k = h.1 1 k := fun k hk => by rw [h81, ho6 k hk, h11]; exact ho k hk
        have goOn : ∀ (due : Int32), due ≠ -1 → due = (if c = 0 then 10 else 32) → sx_X sx_w 38 0 [some (.ref 1), some (.int due), some (.int w)] [] h8 (sx_qi fun x10 h9 => ((¬ (x10 : Int32) = 0 → sx_X sx_w 36 2 [some (.ref 1), some (.int (nI cnt)), some (.int w), some (.int (nI i + 1))] [] h9 (sx_qi f)) ∧ ((x10 : Int32) = 0 → (((0 : Int32) = 0 ∨ (0 : Int32) = 1) ∧ sx_qi f (some (.int 0)) h9)))) := by
          intro due hd1 hdue
          refine e_readByte hb8 (by rw [h81]; exact h66) hnp.2 (fun hdd h9 k9 h96 ho9 => ⟨fun _ => ?_, fun y => absurd y (by decide)⟩) (fun hdd h9 k9 h91 h92 => ⟨fun y => absurd rfl y, fun _ => ⟨Or.inl rfl, ?_⟩⟩)
          · rw [nI_1]
            have hlt := hd_lt hdd hd1
            have hry := rl_y (c := c) hdq (by rw [hdd]; exact hdue)
            refine ih (i + 1) (by omega) h9 ((num t n q).1 + 1) hlt (k8.tr (k9.mo s1_145)) h96 (fun k hk => by rw [ho9 k hk]; exact ho8 k hk) (fun l p2 hl h' k' h'6 ho' hz hv => ?_) (fun e he h' k' h'1 h'2 => ?_)
            · rw [hl] at hry
              refine K1 _ _ hry h' k' h'6 ho' (fun z hz' => ?_) (fun z v s hs => ?_)
              · obtain ⟨a, b⟩ := hz z (by omega)
                rw [a, b, (s145_4 k9).1, (s145_4 k9).2, h84, h85, va_up_ne _ _ (by omega), va_up_ne _ _ (by omega)]
                exact ⟨rfl, rfl⟩
              · match z, hs with
                | 0, hs =>
                  cases hs
                  obtain ⟨a, b⟩ := hz i (by omega)
                  rw [Nat.add_zero, a, b, (s145_4 k9).1, (s145_4 k9).2, h84, h85, va_up_self, va_up_self]
                  exact ⟨rfl, rfl⟩
                | z + 1, hs =>
                  have := hv z v s hs
                  rw [show i + 1 + z = i + (z + 1) by omega] at this
                  exact this
            · rw [he] at hry
              exact K0 e hry h' k' h'1 h'2
          · exact K0 _ (rl_b (c := c) hdq (by rw [← hdue]; exact hdd)) h9 (k8.tr (k9.mo s1_145)) h91 h92
        refine ⟨fun y => ⟨rfl, ?_⟩, fun y => ⟨rfl, ?_⟩⟩
        · rw [nI_1] at y
          exact goOn 10 (by decide) (by rw [if_pos (by have := (nI_leI (a := cnt) (b := i + 1) (by omega) (by omega)).mp y; omega)])
        · rw [nI_1] at y
          exact goOn 32 (by decide) (by rw [if_neg (by intro e0; exact y (nI_le (by omega) (by omega)))])
      · have hdq : ¬ dg t n q := fun y => z ((hd_dg (fun hh => hb1.lt hh)).mpr y)
        rw [h11, hq6]
        exact e_fail (fun h' k' e1' e2' => ⟨Or.inl rfl, K0 q (rl_n hdq) h' (k1.tr (k'.mo s1_145)) e1' e2'⟩)
  refine g_36_0 h 1 _ _ (key cnt 0 (by omega) h p hpn kp.rf hp (fun _ _ => rfl) (fun l p2 hl h' k' h6 ho _ hv => H1 l p2 hl h' k' h6 ho (fun i v s hi => ?_)) H0)
  have := hv i v s hi
  rw [Nat.zero_add] at this
  exact this
/-- a step of one byte or two: an error's place; or its value and where it ends -/
def rs (t : Nat → Nat) (n p : Nat) : Nat ⊕ (Nat × Nat) :=
  if p < n then
    if t p < 128 then .inr (t p, p + 1)
    else if p + 1 < n ∧ 1 ≤ t (p + 1) ∧ t (p + 1) < 128 then .inr (t p - 128 + 128 * t (p + 1), p + 2) else .inl (p + 1)
  else .inl p
theorem e_readStep {h : sx_H} {n p : Nat} {t : Nat → Nat} {f : Int32 → sx_H → Prop} (hb : br h 2 1024 n t) (hp : h.1 1 6 = nI p) (hpn : p ≤ n)
    (H1 : ∀ v p2, rs t n p = .inr (v, p2) → ∀ h', kp s1 h h' → h'.1 1 6 = nI p2 → h'.1 1 5 = nI v → (∀ k, k ≠ 6 → k ≠ 5 → h'.1 1 k = h.1 1 k) → f 1 h')
    (H0 : ∀ q, rs t n p = .inl q → ∀ h', kp s1 h h' → h'.1 1 1 = 5 → h'.1 1 2 = nI q → f 0 h') : sx_X sx_w 34 0 [some (.ref 1), none, none] [] h (sx_qi f) := by
  have hn : n ≤ 8192 := hb.2.1
  refine g_34_0 h 1 ⟨rfl, rfl, rfl, ?_⟩
  rw [hp]
  refine e_byteAt (a := 1 + 1) rfl rfl (Nat.le_refl _) hb ?_
  rw [hdI_nI (by omega)]
  by_cases hpl : p < n
  · have htp := hb.lt hpl
    have e0 : hd t n p = nI (t p) := by unfold hd; rw [if_pos hpl]
    rw [e0]
    refine ⟨fun _ => ⟨rfl, ⟨rfl, rfl⟩, ⟨rfl, rfl⟩, fun z => ⟨rfl, rfl, rfl, ?_⟩, fun z => ⟨Or.inr rfl, ?_⟩⟩, fun z => absurd (nI_pos' (by omega)) z⟩
    · have h128 : 128 ≤ t p := (nI_leI (a := 128) (by decide) (by omega)).mp z
      generalize e1 : ((sx_u (sx_u h.1 1 6 (h.1 1 6 + 1)) 1 5 (nI (t p)), h.2.1, h.2.2) : sx_H) = h1
      have er : sx_u (sx_u h.1 1 6 (h.1 1 6 + 1)) 1 5 (nI (t p)) = h1.1 := by rw [← e1]
      have k1 : kp s1 h h1 := by
        rw [← e1]
        exact ⟨fun b hb' => ⟨by show sx_u (sx_u h.1 1 6 _) 1 5 _ b = _; rw [sx_u_ne hb', sx_u_ne hb'], rfl⟩, rfl⟩
      have h16 : h1.1 1 6 = nI (p + 1) := by
        rw [← er, sx_u_eq, va_up_ne _ _ (by decide), sx_u_eq, va_up_self, hp, nI_1]
      have h1o : ∀ k, k ≠ 6 → k ≠ 5 → h1.1 1 k = h.1 1 k := fun k k6 k5 => by
        rw [← er, sx_u_eq, va_up_ne _ _ k5, sx_u_eq, va_up_ne _ _ k6]
      have hb1 : br h1 2 1024 n t := br2 hb (k1.mo s1_145)
      rw [er, h16]
      refine e_byteAt (a := 1 + 1) rfl rfl (Nat.le_refl _) hb1 ?_
      rw [hdI_nI (by omega)]
      have bad : ¬ (p + 1 < n ∧ 1 ≤ t (p + 1) ∧ t (p + 1) < 128) → sx_X sx_w 26 0 [some (.ref 1), some (.int 5), some (.int (h1.1 1 6))] [] h1 (sx_qi fun x6 h5 => (((x6 : Int32) = 0 ∨ (x6 : Int32) = 1) ∧ sx_qi f (some (.int x6)) h5)) := fun hbad => by
        rw [h16]
        exact e_fail (fun h' k' e1' e2' => ⟨Or.inl rfl, H0 (p + 1) (by unfold rs; rw [if_pos hpl, if_neg (by omega), if_neg hbad]) h' (k1.tr k') e1' e2'⟩)
      by_cases hp2 : p + 1 < n
      · have htp2 := hb.lt hp2
        have e2 : hd t n (p + 1) = nI (t (p + 1)) := by unfold hd; rw [if_pos hp2]
        rw [e2]
        refine ⟨fun y => ⟨rfl, rfl, bad ?_⟩, fun y => ⟨fun y2 => ⟨rfl, ⟨rfl, rfl⟩, ⟨rfl, rfl⟩, Or.inr rfl, ?_⟩, fun y2 => ⟨rfl, rfl, bad ?_⟩⟩⟩
        · have := (nI_ltI (b := 1) (by omega) (by decide)).mp y
          omega
        · have g1 : ¬ t (p + 1) < 1 := fun q => y ((nI_ltI (b := 1) (by omega) (by decide)).mpr q)
          have g2 : t (p + 1) < 128 := (nI_ltI (b := 128) (by omega) (by decide)).mp y2
          refine H1 (t p - 128 + 128 * t (p + 1)) (p + 2) (by unfold rs; rw [if_pos hpl, if_neg (by omega), if_pos (by omega)]) _ ?_ ?_ ?_ (fun k k6 k5 => ?_)
          · exact k1.tr ⟨fun b hb' => ⟨by show sx_u (sx_u h1.1 1 6 _) 1 5 _ b = _; rw [sx_u_ne hb', sx_u_ne hb'], rfl⟩, rfl⟩
          · dsimp only
            rw [sx_u_eq, va_up_ne _ _ (by decide), sx_u_eq, va_up_self, h16, nI_1]
          · dsimp only
            rw [sx_u_eq, va_up_self, show (128 : Int32) = nI 128 from rfl, pk_sub h128, pk_mul, nI_add]
          · dsimp only
            rw [sx_u_eq, va_up_ne _ _ k5, sx_u_eq, va_up_ne _ _ k6]
            exact h1o k k6 k5
        · have g2 : ¬ t (p + 1) < 128 := fun q => y2 ((nI_ltI (b := 128) (by omega) (by decide)).mpr q)
          omega
      · have e2 : hd t n (p + 1) = -1 := by unfold hd; rw [if_neg hp2]
        rw [e2]
        exact ⟨fun y => ⟨rfl, rfl, bad (by omega)⟩, fun y => absurd (by decide) y⟩
    · have h128 : ¬ 128 ≤ t p := fun q => z (nI_le q (by omega))
      refine H1 (t p) (p + 1) (by unfold rs; rw [if_pos hpl, if_pos (by omega)]) _ ?_ ?_ ?_ (fun k k6 k5 => ?_)
      · exact ⟨fun b hb' => ⟨by show sx_u (sx_u h.1 1 6 _) 1 5 _ b = _; rw [sx_u_ne hb', sx_u_ne hb'], rfl⟩, rfl⟩
      · dsimp only
        rw [sx_u_eq, va_up_ne _ _ (by decide), sx_u_eq, va_up_self, hp, nI_1]
      · dsimp only
        rw [sx_u_eq, va_up_self]
      · dsimp only
        rw [sx_u_eq, va_up_ne _ _ k5, sx_u_eq, va_up_ne _ _ k6]
  · have e0 : hd t n p = -1 := by unfold hd; rw [if_neg hpl]
    rw [e0]
    refine ⟨fun z => absurd z (by decide), fun _ => ⟨rfl, rfl, ?_⟩⟩
    rw [hp]
    exact e_fail (fun h' k' e1' e2' => ⟨Or.inl rfl, H0 p (by unfold rs; rw [if_neg hpl]) h' k' e1' e2'⟩)
