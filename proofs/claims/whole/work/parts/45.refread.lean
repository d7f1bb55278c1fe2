-- THE REFERENCE READS (object 40; tape 41, said 58, began 59; of its fields 2 taped, 5 error, 6 place, 30 at)
def mt (h : sx_H) (n : Nat) (t : Nat → Nat) : Prop := h.1 40 2 = nI n ∧ n ≤ 8192 ∧ ∀ i, i < n → h.1 41 i = nI (t i) ∧ t i < 256
def r40 : Nat → Prop := fun b => b = 40
def rLn : Nat → Prop := fun b => b = 40 ∨ b = 58 ∨ b = 59
theorem r40_Ln : ∀ b, r40 b → rLn b := fun _ h => Or.inl h
theorem mt.kp {S : Nat → Prop} {h h' : sx_H} {n : Nat} {t : Nat → Nat} (x : mt h n t) (k : kp S h h') (h2 : h'.1 40 2 = h.1 40 2) (h41 : ¬ S 41) : mt h' n t := ⟨h2.trans x.1, x.2.1, fun i hi => by rw [k.i h41]; exact x.2.2 i hi⟩
theorem f_here {sh : sx_S} {h : sx_H} {n p : Nat} {t : Nat → Nat} {f : Int32 → sx_H → Prop} (hs : sh.1 = sx_shp) (hm : mt h n t) (hp : h.1 40 30 = nI p) (hp' : p ≤ 8192) (H : f (hd t n p) h) : sx_X sh 80 0 [some (.ref 40)] [] h (sx_qi f) := by
  obtain ⟨m1, m2, m3⟩ := hm
  have s0 : (sh.1 40).1 = 11 := by rw [hs]; rfl
  refine g_80_0 h 40 ⟨s0, s0, ?_⟩
  rw [m1, hp]
  unfold hd at H
  refine pk_le n p (fun z => ?_) (fun z => ⟨s0, s0, ⟨⟨by rw [hs]; rfl, ?_⟩, ?_⟩⟩)
  · rw [if_neg (by omega)] at H; exact H
  · rw [hs]; exact vp_in_nI (N := 8192) (by omega) (by decide)
  · rw [if_pos z] at H
    rw [nI_clamp (by omega), show h.1 (40 + 1) p = nI (t p) from (m3 p z).1]
    exact H
theorem f_in {sh : sx_S} {h : sx_H} {x a b : Int32} {f : Int32 → sx_H → Prop} (H1 : a ≤ x ∧ x ≤ b → f 1 h) (H0 : ¬ (a ≤ x ∧ x ≤ b) → f 0 h) : sx_X sh 79 0 [some (.int x), some (.int a), some (.int b)] [] h (sx_qi f) := by
  refine g_79_0 h x a b ⟨fun z => ⟨Or.inl rfl, H0 (fun q => ?_)⟩, fun z => ⟨fun z2 => ⟨Or.inl rfl, H0 (fun q => ?_)⟩, fun z2 => ⟨Or.inr rfl, H1 ⟨Int32.not_lt.mp z, Int32.not_lt.mp z2⟩⟩⟩⟩
  · exact absurd z (Int32.not_lt.mpr q.1)
  · exact absurd z2 (Int32.not_lt.mpr q.2)
theorem f_tell {h : sx_H} {w q : Int32} {f : Int32 → sx_H → Prop} (H : ∀ h', kp r40 h h' → h'.1 40 5 = w → h'.1 40 6 = q → (∀ k, k ≠ 5 → k ≠ 6 → h'.1 40 k = h.1 40 k) → f w h') : sx_X sx_w 81 0 [some (.ref 40), some (.int w), some (.int q)] [] h (sx_qi f) := by
  refine g_81_0 h 40 w q ⟨⟨rfl, rfl⟩, ⟨rfl, rfl⟩, H _ ⟨fun b hb => ⟨?_, rfl⟩, rfl⟩ ?_ ?_ (fun k h5 h6 => ?_)⟩
  · show sx_u (sx_u h.1 40 5 w) 40 6 q b = _
    rw [sx_u_ne hb, sx_u_ne hb]
  · show sx_u (sx_u h.1 40 5 w) 40 6 q 40 5 = _
    rw [sx_u_eq, va_up_ne _ _ (by decide), sx_u_eq, va_up_self]
  · show sx_u (sx_u h.1 40 5 w) 40 6 q 40 6 = _
    rw [sx_u_eq, va_up_self]
  · show sx_u (sx_u h.1 40 5 w) 40 6 q 40 k = _
    rw [sx_u_eq, va_up_ne _ _ h6, sx_u_eq, va_up_ne _ _ h5]
theorem nmm_le (t : Nat → Nat) (p : Nat) : 1 ≤ nmm t p ∧ nmm t p ≤ 9 ∧ (nmm t p = 1 ↔ t p = 48) ∧ (nmm t p = 1 ∨ nmm t p = 9) := by
  unfold nmm
  split <;> omega
theorem f_number {h : sx_H} {n p : Nat} {t : Nat → Nat} {f : Int32 → sx_H → Prop} (hm : mt h n t) (hp : h.1 40 30 = nI p) (hpn : p ≤ n)
    (H1 : dg t n p → ¬ dg t n (num t n p).1 → ∀ h', kp r40 h h' → h'.1 40 30 = nI (num t n p).1 → (∀ k, k ≠ 30 → h'.1 40 k = h.1 40 k) → f (nI (num t n p).2) h')
    (H0 : ∀ q, (¬ dg t n p ∧ q = p) ∨ (dg t n p ∧ q = (num t n p).1 ∧ dg t n q) → ∀ h', kp r40 h h' → h'.1 40 30 = nI q → (∀ k, k ≠ 30 → h'.1 40 k = h.1 40 k) → f (-1) h') :
    sx_X sx_w 82 0 [some (.ref 40), none, none] [] h (sx_qi f) := by
  have hn := hm.2.1
  obtain ⟨w1, w2, w3, w4⟩ := nmm_le t p
  have key : ∀ (m i v : Nat) (h0 : sx_H), i + m = nmm t p → p + i ≤ n → v < 10 ^ i → (1 ≤ i → (dg t n p ∧ (v = 0 ↔ t p = 48))) → (i = 0 → v = 0) → nm t n m (p + i) v = num t n p → kp r40 h h0 → h0.1 40 30 = nI (p + i) → (∀ k, k ≠ 30 → h0.1 40 k = h.1 40 k) →
      sx_X sx_w 82 7 [some (.ref 40), some (.int (nI p)), some (.int (nI v))] [] h0 (sx_qi f) := by
    intro m
    induction m with
    | zero =>
      intro i v h0 hi hpi hv hv1 hv0 e k0 h30 ho
      have hm0 : mt h0 n t := hm.kp k0 (ho 2 (by decide)) (by unfold r40; decide)
      have e' : (p + i, v) = num t n p := e
      obtain ⟨hdp, hz⟩ := hv1 (by omega)
      refine g_82_7 h0 40 _ _ ⟨rfl, f_here rfl hm0 h30 (by omega) (f_in (fun z => ⟨fun y => absurd y (by decide), fun _ => ⟨rfl, ?_⟩⟩) (fun z => ⟨fun _ => ⟨rfl, ?_⟩, fun y => absurd rfl y⟩))⟩
      · have hdq : dg t n (p + i) := (hd_dg (fun hh => (hm.2.2 _ hh).2)).mp z
        have stop : f (-1) h0 := H0 (p + i) (Or.inr ⟨hdp, by rw [← e'], hdq⟩) h0 k0 h30 ho
        rw [h30, pk_sub (by omega), Nat.add_sub_cancel_left]
        refine pk_eq (y := 9) i 9 (fun _ => stop) (fun z9 => ⟨rfl, ?_⟩)
        rw [nI_1]
        exact pk_en (p + i) (p + 1) (fun z1 => (by omega)) (fun z1 => pk_en (y := 0) v 0 (fun z2 => (by omega)) (fun _ => stop))
      · have hdq : ¬ dg t n (p + i) := fun q => z ((hd_dg (fun hh => (hm.2.2 _ hh).2)).mpr q)
        rw [h30]
        refine pk_en (p + i) p (fun z1 => ?_) (fun z1 => (by omega))
        have := H1 hdp (by rw [← e']; exact hdq) h0 k0 (by rw [← e']; exact h30) ho
        rw [← e'] at this
        exact this
    | succ m ih =>
      intro i v h0 hi hpi hv hv1 hv0 e k0 h30 ho
      have hm0 : mt h0 n t := hm.kp k0 (ho 2 (by decide)) (by unfold r40; decide)
      refine g_82_7 h0 40 _ _ ⟨rfl, f_here rfl hm0 h30 (by omega) (f_in (fun z => ⟨fun y => absurd y (by decide), fun _ => ⟨rfl, ?_⟩⟩) (fun z => ⟨fun _ => ⟨rfl, ?_⟩, fun y => absurd rfl y⟩))⟩
      · have hdq : dg t n (p + i) := (hd_dg (fun hh => (hm.2.2 _ hh).2)).mp z
        rw [nm_y hdq] at e
        have ev : ((10 * nI v + hd t n (p + i)) - 48) = nI (v * 10 + (t (p + i) - 48)) := by
          unfold hd
          rw [if_pos hdq.1, show (10 : Int32) = nI 10 from rfl, show (48 : Int32) = nI 48 from rfl, pk_mul, nI_add, pk_sub (by have := hdq.2.1; omega)]
          congr 1
          have := hdq.2.1
          omega
        have go : sx_X sx_w 80 0 [some (.ref 40)] [] h0 (sx_qi fun x6 h5 => ((sx_w.1 40).1 = 11 ∧ ((sx_w.2 = true ∧ (sx_w.1 40).1 = 11) ∧ sx_X sx_w 82 7 [some (.ref 40), some (.int (nI p)), some (.int (((10 * nI v) + x6) - 48))] [] (sx_u h5.1 40 30 ((h5.1 40 30) + 1), h5.2.1, h5.2.2) (sx_qi f)))) := by
          refine f_here rfl hm0 h30 (by omega) ⟨rfl, ⟨rfl, rfl⟩, ?_⟩
          rw [ev, h30, nI_1]
          have hd1 := hdq.2.1
          have hd2 := hdq.2.2
          have hp0 : 1 ≤ 10 ^ i := Nat.pow_pos (by decide)
          refine ih (i + 1) _ _ (by omega) hdq.1 (by rw [Nat.pow_succ]; omega) (fun _ => ?_) (fun q => (by omega)) e (k0.tr (kp_hw (S := r40) rfl)) ?_ (fun k hk => ?_)
          · by_cases q : i = 0
            · subst q
              have := hv0 rfl
              exact ⟨hdq, by rw [this]; simp only [Nat.add_zero] at hd1 ⊢; omega⟩
            · obtain ⟨a1, a2⟩ := hv1 (by omega)
              refine ⟨a1, ?_⟩
              have : ¬ t p = 48 := fun q => (by have := w3.mpr q; omega)
              omega
          · dsimp only
            rw [sx_u_eq, va_up_self]
            rfl
          · dsimp only
            rw [sx_u_eq, va_up_ne _ _ hk]
            exact ho k hk
        rw [h30, pk_sub (by omega), Nat.add_sub_cancel_left]
        refine pk_eq (y := 9) i 9 (fun z9 => (by omega)) (fun z9 => ⟨rfl, ?_⟩)
        rw [nI_1]
        have bv : v < 2 ^ 31 := Nat.lt_of_lt_of_le hv (Nat.le_trans (Nat.pow_le_pow_right (by decide) (show i ≤ 9 by omega)) (by decide))
        exact pk_en (p + i) (p + 1) (fun z1 => ⟨rfl, go⟩) (fun z1 => pk_en (y := 0) v 0 (fun z2 => ⟨rfl, go⟩) (fun z2 => (by have := hv1 (by omega); have := w3.mpr (this.2.mp z2); omega)))
      · have hdq : ¬ dg t n (p + i) := fun q => z ((hd_dg (fun hh => (hm.2.2 _ hh).2)).mpr q)
        rw [nm_n hdq] at e
        rw [h30]
        refine pk_en (p + i) p (fun z1 => ?_) (fun z1 => ?_)
        · have := H1 (hv1 (by omega)).1 (by rw [← e]; exact hdq) h0 k0 (by rw [← e]; exact h30) ho
          rw [← e] at this
          exact this
        · have hi0 : i = 0 := by omega
          subst hi0
          exact H0 p (Or.inl ⟨hdq, rfl⟩) h0 k0 h30 ho
  refine g_82_0 h 40 ⟨rfl, ?_⟩
  rw [hp]
  exact key (nmm t p) 0 0 h (by omega) hpn (by decide) (fun q => (by omega)) (fun _ => rfl) rfl kp.rf hp (fun _ _ => rfl)
