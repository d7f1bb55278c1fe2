-- THE REFERENCE READS A LINE
def rt (t : Nat → Nat) (n c e : Nat) : Nat ⊕ (List (Nat × Nat) × Nat) := if hd t n e = (if c = 0 then 10 else 32) then rl t n c (e + 1) else .inl e
theorem rt_0 {t : Nat → Nat} {n e : Nat} : rt t n 0 e = if hd t n e = 10 then .inr ([], e + 1) else .inl e := rfl
theorem rt_s {t : Nat → Nat} {n c e : Nat} : rt t n (c + 1) e = if hd t n e = 32 then rl t n (c + 1) (e + 1) else .inl e := by
  have h : (if c + 1 = 0 then (10 : Int32) else 32) = 32 := if_neg (Nat.succ_ne_zero c)
  unfold rt
  rw [h]
theorem rl_rt {t : Nat → Nat} {n c p : Nat} (h : dg t n p) : rl t n (c + 1) p = match rt t n c (num t n p).1 with
    | .inl q => .inl q
    | .inr (l, p2) => .inr (((num t n p).2, p) :: l, p2) := by
  unfold rt
  by_cases h2 : hd t n (num t n p).1 = (if c = 0 then 10 else 32)
  · rw [rl_y h h2, if_pos h2]
    cases rl t n c ((num t n p).1 + 1) <;> rfl
  · rw [rl_b h h2, if_neg h2]
theorem dg_ndl {t : Nat → Nat} {n c e : Nat} (ht : e < n → t e < 256) (h : dg t n e) : rt t n c e = .inl e := by
  unfold rt
  rw [if_neg]
  unfold hd
  rw [if_pos h.1]
  have h1 := h.2.1
  have h2 := ht h.1
  split
  · rw [show (10 : Int32) = nI 10 from rfl, nI_eq (by omega) (by decide)]; omega
  · rw [show (32 : Int32) = nI 32 from rfl, nI_eq (by omega) (by decide)]; omega
theorem f_line {h : sx_H} {n p cnt : Nat} {t : Nat → Nat} {f : Int32 → sx_H → Prop} (hc : 1 ≤ cnt ∧ cnt ≤ 5) (hm : mt h n t) (hp : h.1 40 30 = nI p) (hpn : p ≤ n)
    (H1 : ∀ l p2, rl t n cnt p = .inr (l, p2) → ∀ h', kp rLn h h' → h'.1 40 30 = nI p2 → (∀ k, k ≠ 30 → h'.1 40 k = h.1 40 k) → (∀ i v s, l[i]? = some (v, s) → h'.1 58 i = nI v ∧ h'.1 59 i = nI s) → f 1 h')
    (H0 : ∀ q, rl t n cnt p = .inl q → ∀ h', kp rLn h h' → h'.1 40 30 = nI q → (∀ k, k ≠ 30 → h'.1 40 k = h.1 40 k) → f 0 h') :
    sx_X sx_w 83 0 [some (.ref 40), some (.int (nI cnt)), none] [] h (sx_qi f) := by
  have hn := hm.2.1
  have mtk : ∀ {h0 : sx_H}, kp rLn h h0 → (∀ k, k ≠ 30 → h0.1 40 k = h.1 40 k) → mt h0 n t := fun {h0} k0 ho => hm.kp k0 (ho 2 (by decide)) (by unfold rLn; decide)
  -- one number at q, by what stands behind it
  have numS : ∀ (c i : Nat), i + c + 1 = cnt →
      (∀ (e : Nat) (h0 : sx_H), e ≤ n → kp rLn h h0 → h0.1 40 30 = nI e → (∀ k, k ≠ 30 → h0.1 40 k = h.1 40 k) →
        (∀ l p2, rt t n c e = .inr (l, p2) → ∀ h', kp rLn h h' → h'.1 40 30 = nI p2 → (∀ k, k ≠ 30 → h'.1 40 k = h.1 40 k) → (∀ z, z < i + 1 → h'.1 58 z = h0.1 58 z ∧ h'.1 59 z = h0.1 59 z) → (∀ z v s, l[z]? = some (v, s) → h'.1 58 (i + 1 + z) = nI v ∧ h'.1 59 (i + 1 + z) = nI s) → f 1 h') →
        (∀ q, rt t n c e = .inl q → ∀ h', kp rLn h h' → h'.1 40 30 = nI q → (∀ k, k ≠ 30 → h'.1 40 k = h.1 40 k) → f 0 h') →
        sx_X sx_w 83 2 [some (.ref 40), some (.int (nI cnt)), some (.int (nI (i + 1)))] [] h0 (sx_qi f)) →
      ∀ (q : Nat) (hA : sx_H), q ≤ n → kp rLn h hA → hA.1 40 30 = nI q → (∀ k, k ≠ 30 → hA.1 40 k = h.1 40 k) → hA.1 59 i = nI q →
        (∀ l p2, rl t n (c + 1) q = .inr (l, p2) → ∀ h', kp rLn h h' → h'.1 40 30 = nI p2 → (∀ k, k ≠ 30 → h'.1 40 k = h.1 40 k) → (∀ z, z < i → h'.1 58 z = hA.1 58 z ∧ h'.1 59 z = hA.1 59 z) → (∀ z v s, l[z]? = some (v, s) → h'.1 58 (i + z) = nI v ∧ h'.1 59 (i + z) = nI s) → f 1 h') →
        (∀ e, rl t n (c + 1) q = .inl e → ∀ h', kp rLn h h' → h'.1 40 30 = nI e → (∀ k, k ≠ 30 → h'.1 40 k = h.1 40 k) → f 0 h') →
        sx_X sx_w 82 0 [some (.ref 40), none, none] [] hA (sx_qi fun x4 h3 => ((sx_w.2 = true ∧ (sx_w.1 (40 + 18)).1 = 1 ∧ vp_in (nI i) (sx_w.1 (40 + 18)).2) ∧ ((sx_w.1 40).1 = 11 ∧ (((sx_w.1 (40 + 18)).1 = 1 ∧ vp_in (nI i) (sx_w.1 (40 + 18)).2) ∧ ((0 ≤ (sx_u h3.1 (40 + 18) (Int32.toNatClampNeg (nI i)) x4 (40 + 18) (Int32.toNatClampNeg (nI i)) : Int32) → sx_X sx_w 83 2 [some (.ref 40), some (.int (nI cnt)), some (.int (nI i + 1))] [] (sx_u h3.1 (40 + 18) (Int32.toNatClampNeg (nI i)) x4, h3.2.1, h3.2.2) (sx_qi f)) ∧ (¬ 0 ≤ (sx_u h3.1 (40 + 18) (Int32.toNatClampNeg (nI i)) x4 (40 + 18) (Int32.toNatClampNeg (nI i)) : Int32) → (((0 : Int32) = 0 ∨ (0 : Int32) = 1) ∧ sx_qi f (some (.int 0)) (sx_u h3.1 (40 + 18) (Int32.toNatClampNeg (nI i)) x4, h3.2.1, h3.2.2)))))))) := by
    intro c i hi key q hA hq kA h30 ho h59 K1 K0
    have hmA := mtk kA ho
    have vin : vp_in (nI i) (sx_w.1 (40 + 18)).2 := vp_in_nI (N := 5) (by omega) (by decide)
    rw [nI_clamp (by omega)]
    refine f_number hmA h30 hq (fun hdq hnd h1 k1 h130 ho1 => ⟨⟨rfl, rfl, vin⟩, rfl, ⟨rfl, vin⟩, ?_⟩) (fun e he h1 k1 h130 ho1 => ⟨⟨rfl, rfl, vin⟩, rfl, ⟨rfl, vin⟩, ?_⟩)
    · have hbd := num_bd t n q
      rw [sx_u_eq, va_up_self]
      refine ⟨fun _ => ?_, fun z => absurd (nI_pos' (by omega)) z⟩
      rw [nI_1]
      have hnp := num_pos t (n := n) (p := q) hq
      have x40 : (sx_u h1.1 (40 + 18) i (nI (num t n q).2)) 40 = h1.1 40 := sx_u_ne (by decide)
      have x59 : (sx_u h1.1 (40 + 18) i (nI (num t n q).2)) 59 = hA.1 59 := by rw [sx_u_ne (by decide), k1.i (by unfold r40; decide)]
      have x58 : (sx_u h1.1 (40 + 18) i (nI (num t n q).2)) 58 = va_up (hA.1 58) i (nI (num t n q).2) := by
        show sx_u h1.1 58 i _ 58 = _
        rw [sx_u_eq, k1.i (by unfold r40; decide)]
      refine key (num t n q).1 _ hnp.2 ((kA.tr (k1.mo r40_Ln)).tr (kp_hw (S := rLn) (Or.inr (Or.inl rfl)))) ?_ (fun k hk => ?_) (fun l p2 hl h' k' h'30 ho' hz hv => ?_) (fun e he h' k' h'30 ho' => ?_)
      · show (sx_u h1.1 (40 + 18) i (nI (num t n q).2)) 40 30 = _
        rw [x40]; exact h130
      · show (sx_u h1.1 (40 + 18) i (nI (num t n q).2)) 40 k = _
        rw [x40, ho1 k hk]; exact ho k hk
      · have hr := rl_rt (c := c) hdq
        rw [hl] at hr
        have hz' : ∀ z, z < i + 1 → h'.1 58 z = va_up (hA.1 58) i (nI (num t n q).2) z ∧ h'.1 59 z = hA.1 59 z := fun z hzi => by
          obtain ⟨a, b⟩ := hz z hzi
          exact ⟨a.trans (congrFun x58 z), b.trans (congrFun x59 z)⟩
        refine K1 _ _ hr h' k' h'30 ho' (fun z hzi => ?_) (fun z v s hs => ?_)
        · obtain ⟨a, b⟩ := hz' z (by omega)
          rw [a, b, va_up_ne _ _ (by omega)]
          exact ⟨rfl, rfl⟩
        · match z, hs with
          | 0, hs =>
            cases hs
            obtain ⟨a, b⟩ := hz' i (by omega)
            rw [Nat.add_zero, a, b, va_up_self]
            exact ⟨rfl, h59⟩
          | z + 1, hs =>
            have := hv z v s hs
            rw [show i + 1 + z = i + (z + 1) by omega] at this
            exact this
      · have hr := rl_rt (c := c) hdq
        rw [he] at hr
        exact K0 e hr h' k' h'30 ho'
    · rw [sx_u_eq, va_up_self]
      refine ⟨fun z => absurd z (by decide), fun _ => ⟨Or.inl rfl, ?_⟩⟩
      have x40 : (sx_u h1.1 (40 + 18) i (-1)) 40 = h1.1 40 := sx_u_ne (by decide)
      refine K0 e ?_ _ ((kA.tr (k1.mo r40_Ln)).tr (kp_hw (S := rLn) (Or.inr (Or.inl rfl)))) ?_ (fun k hk => ?_)
      · rcases he with ⟨a, b⟩ | ⟨a, b, c'⟩
        · rw [b]; exact rl_n a
        · have hr := rl_rt (c := c) a
          rw [← b, dg_ndl (fun hh => (hm.2.2 _ hh).2) c'] at hr
          exact hr
      · show (sx_u h1.1 (40 + 18) i (-1)) 40 30 = _
        rw [x40]; exact h130
      · show (sx_u h1.1 (40 + 18) i (-1)) 40 k = _
        rw [x40, ho1 k hk]; exact ho k hk
  have key : ∀ (c i : Nat), i + 1 + c = cnt → ∀ (e : Nat) (h0 : sx_H), e ≤ n → kp rLn h h0 → h0.1 40 30 = nI e → (∀ k, k ≠ 30 → h0.1 40 k = h.1 40 k) →
        (∀ l p2, rt t n c e = .inr (l, p2) → ∀ h', kp rLn h h' → h'.1 40 30 = nI p2 → (∀ k, k ≠ 30 → h'.1 40 k = h.1 40 k) → (∀ z, z < i + 1 → h'.1 58 z = h0.1 58 z ∧ h'.1 59 z = h0.1 59 z) → (∀ z v s, l[z]? = some (v, s) → h'.1 58 (i + 1 + z) = nI v ∧ h'.1 59 (i + 1 + z) = nI s) → f 1 h') →
        (∀ q, rt t n c e = .inl q → ∀ h', kp rLn h h' → h'.1 40 30 = nI q → (∀ k, k ≠ 30 → h'.1 40 k = h.1 40 k) → f 0 h') →
        sx_X sx_w 83 2 [some (.ref 40), some (.int (nI cnt)), some (.int (nI (i + 1)))] [] h0 (sx_qi f) := by
    intro c
    induction c with
    | zero =>
      intro i hi e h0 he k0 h30 ho K1 K0
      have hm0 := mtk k0 ho
      refine g_83_2 h0 40 _ _ (pk_le cnt (i + 1) (fun _ => ⟨rfl, f_here rfl hm0 h30 (by omega) ⟨fun z => ⟨rfl, ⟨rfl, rfl⟩, Or.inr rfl, ?_⟩, fun z => ⟨Or.inl rfl, ?_⟩⟩⟩) (fun z => (by omega)))
      · have hr : rt t n 0 e = .inr ([], e + 1) := by rw [rt_0, if_pos z]
        refine K1 [] (e + 1) hr _ (k0.tr (kp_hw (S := rLn) (Or.inl rfl))) ?_ (fun k hk => ?_) (fun y hy => ?_) (fun y v s hs => (by cases hs))
        · dsimp only
          rw [sx_u_eq, va_up_self, h30, nI_1]
        · dsimp only
          rw [sx_u_eq, va_up_ne _ _ hk]; exact ho k hk
        · dsimp only
          rw [sx_u_ne (by decide), sx_u_ne (by decide)]
          exact ⟨rfl, rfl⟩
      · exact K0 e (by rw [rt_0, if_neg z]) h0 k0 h30 ho
    | succ c ih =>
      intro i hi e h0 he k0 h30 ho K1 K0
      have hm0 := mtk k0 ho
      refine g_83_2 h0 40 _ _ (pk_le cnt (i + 1) (fun z => (by omega)) (fun _ => pk_le (y := 0) (i + 1) 0 (fun z => (by omega)) (fun _ => ⟨rfl, f_here rfl hm0 h30 (by omega) ⟨fun z => ⟨rfl, ⟨rfl, rfl⟩, rfl, rfl, ⟨rfl, rfl, vp_in_nI (N := 5) (by omega) (by decide)⟩, rfl, rfl, ?_⟩, fun z => ⟨Or.inl rfl, ?_⟩⟩⟩)))
      · have hlt := hd_lt z (by decide)
        have hr : rt t n (c + 1) e = rl t n (c + 1) (e + 1) := by rw [rt_s, if_pos z]
        rw [hr] at K1 K0
        rw [show sx_u h0.1 40 30 (h0.1 40 30 + 1) 40 30 = nI (e + 1) by rw [sx_u_eq, va_up_self, h30, nI_1]]
        generalize eA : ((sx_u (sx_u h0.1 40 30 (h0.1 40 30 + 1)) (40 + 19) (Int32.toNatClampNeg (nI (i + 1))) (nI (e + 1)), h0.2.1, h0.2.2) : sx_H) = hA
        have er : sx_u (sx_u h0.1 40 30 (h0.1 40 30 + 1)) (40 + 19) (Int32.toNatClampNeg (nI (i + 1))) (nI (e + 1)) = hA.1 := by rw [← eA]
        rw [nI_clamp (by omega)] at er
        have a40 : hA.1 40 = va_up (h0.1 40) 30 (nI (e + 1)) := by rw [← er, sx_u_ne (by decide), sx_u_eq, h30, nI_1]
        have a59 : hA.1 59 = va_up (h0.1 59) (i + 1) (nI (e + 1)) := by
          rw [← er]
          show sx_u (sx_u h0.1 40 30 _) 59 (i + 1) _ 59 = _
          rw [sx_u_eq, sx_u_ne (by decide)]
        have a58 : hA.1 58 = h0.1 58 := by rw [← er, sx_u_ne (by decide), sx_u_ne (by decide)]
        have kA : kp rLn h hA := by
          rw [← eA]
          exact (k0.tr (kp_hw (S := rLn) (a := 40) (Or.inl rfl))).tr (kp_hw (S := rLn) (a := 59) (Or.inr (Or.inr rfl)))
        refine numS c (i + 1) (by omega) (ih (i + 1) (by omega)) (e + 1) hA hlt kA (by rw [a40, va_up_self]) (fun k hk => by rw [a40, va_up_ne _ _ hk]; exact ho k hk) (by rw [a59, va_up_self]) (fun l p2 hl h' k' h'30 ho' hz hv => K1 l p2 hl h' k' h'30 ho' (fun z hz' => ?_) hv) K0
        obtain ⟨b1, b2⟩ := hz z hz'
        rw [b1, b2, a58, a59, va_up_ne _ _ (by omega)]
        exact ⟨rfl, rfl⟩
      · exact K0 e (by rw [rt_s, if_neg z]) h0 k0 h30 ho
  obtain ⟨c, ec⟩ : ∃ c, cnt = c + 1 := ⟨cnt - 1, by omega⟩
  subst ec
  refine g_83_0 h 40 _ (g_83_2 h 40 _ _ ⟨fun z => absurd z (nI_ge (a := 0) (b := c + 1) (by omega) (by omega)), fun _ => ⟨fun _ => ⟨rfl, rfl, ⟨rfl, rfl, vp_in_nI (n := 0) (N := 5) (by decide) (by decide)⟩, rfl, rfl, ?_⟩, fun z => absurd (by decide) z⟩⟩)
  rw [hp]
  generalize eA : ((sx_u h.1 (40 + 19) (Int32.toNatClampNeg 0) (nI p), h.2.1, h.2.2) : sx_H) = hA
  have er : sx_u h.1 (40 + 19) 0 (nI p) = hA.1 := by rw [← eA]; rfl
  have a40 : hA.1 40 = h.1 40 := by rw [← er, sx_u_ne (by decide)]
  have a59 : hA.1 59 0 = nI p := by
    rw [← er]
    show sx_u h.1 59 0 _ 59 0 = _
    rw [sx_u_eq, va_up_self]
  have kA : kp rLn h hA := by
    rw [← eA]
    exact kp_hw (S := rLn) (a := 59) (Or.inr (Or.inr rfl))
  refine numS c 0 (by omega) (key c 0 (by omega)) p hA hpn kA (by rw [a40]; exact hp) (fun k hk => by rw [a40]) a59 (fun l p2 hl h' k' h'30 ho' _ hv => H1 l p2 hl h' k' h'30 ho' (fun i v s hi => ?_)) H0
  have := hv i v s hi
  rw [Nat.zero_add] at this
  exact this
