-- READING A LINE: pure words, and the class's Reader (object 1, tape 2 and 3, numbers 4, starts 5; of its fields 1 error, 2 place, 5 step, 6 next)
abbrev dg (t : Nat → Nat) (n p : Nat) : Prop := p < n ∧ 48 ≤ t p ∧ t p ≤ 57
/-- digits from p on, m at most: where they end, the number -/
def nm (t : Nat → Nat) (n : Nat) : Nat → Nat → Nat → Nat × Nat
  | 0, p, v => (p, v)
  | m + 1, p, v => if dg t n p then nm t n m (p + 1) (v * 10 + (t p - 48)) else (p, v)
theorem nm_y {t : Nat → Nat} {n m p v : Nat} (h : dg t n p) : nm t n (m + 1) p v = nm t n m (p + 1) (v * 10 + (t p - 48)) := by
  show (if dg t n p then _ else _) = _
  rw [if_pos h]
theorem nm_n {t : Nat → Nat} {n m p v : Nat} (h : ¬ dg t n p) : nm t n (m + 1) p v = (p, v) := by
  show (if dg t n p then _ else _) = _
  rw [if_neg h]
theorem nm_pos {t : Nat → Nat} {n : Nat} : ∀ (m p v : Nat), p ≤ n → p ≤ (nm t n m p v).1 ∧ (nm t n m p v).1 ≤ n
  | 0, p, v, h => ⟨Nat.le_refl _, h⟩
  | m + 1, p, v, h => by
    by_cases hd : dg t n p
    · rw [nm_y hd]
      have := nm_pos (t := t) m (p + 1) (v * 10 + (t p - 48)) hd.1
      exact ⟨by omega, this.2⟩
    · rw [nm_n hd]; exact ⟨Nat.le_refl _, h⟩
theorem nm_bd {t : Nat → Nat} {n : Nat} : ∀ (m p v : Nat), (nm t n m p v).2 < (v + 1) * 10 ^ m
  | 0, p, v => by show v < (v + 1) * 1; omega
  | m + 1, p, v => by
    have hp : 0 < 10 ^ m := Nat.pow_pos (by decide)
    by_cases hd : dg t n p
    · rw [nm_y hd]
      have h1 := nm_bd (t := t) (n := n) m (p + 1) (v * 10 + (t p - 48))
      have h2 : (v * 10 + (t p - 48) + 1) * 10 ^ m ≤ (v + 1) * 10 * 10 ^ m := Nat.mul_le_mul_right _ (by have := hd.2.2; omega)
      rw [Nat.pow_succ, Nat.mul_comm (10 ^ m) 10, ← Nat.mul_assoc]
      omega
    · rw [nm_n hd]
      show v < _
      have : (v + 1) * 1 ≤ (v + 1) * 10 ^ (m + 1) := Nat.mul_le_mul_left _ (Nat.pow_pos (by decide))
      omega
/-- the most digits of a number that begins at p -/
def nmm (t : Nat → Nat) (p : Nat) : Nat := if t p = 48 then 1 else 9
def num (t : Nat → Nat) (n p : Nat) : Nat × Nat := nm t n (nmm t p) p 0
theorem num_bd (t : Nat → Nat) (n p : Nat) : (num t n p).2 < 1000000000 := by
  have h := nm_bd (t := t) (n := n) (nmm t p) p 0
  have h2 : (0 + 1) * 10 ^ (nmm t p) ≤ 1000000000 := by
    unfold nmm
    split <;> decide
  unfold num
  omega
theorem num_pos (t : Nat → Nat) {n p : Nat} (h : p ≤ n) : p ≤ (num t n p).1 ∧ (num t n p).1 ≤ n := nm_pos _ _ _ h
/-- a line of c numbers: an error's place; or the numbers with their places, and where it ends -/
def rl (t : Nat → Nat) (n : Nat) : Nat → Nat → Nat ⊕ (List (Nat × Nat) × Nat)
  | 0, p => .inr ([], p)
  | c + 1, p => if dg t n p then
      (if hd t n (num t n p).1 = (if c = 0 then 10 else 32) then
        match rl t n c ((num t n p).1 + 1) with
        | .inl q => .inl q
        | .inr (l, p2) => .inr (((num t n p).2, p) :: l, p2)
      else .inl (num t n p).1) else .inl p
theorem rl_n {t : Nat → Nat} {n c p : Nat} (h : ¬ dg t n p) : rl t n (c + 1) p = .inl p := by
  show (if dg t n p then _ else _) = _
  rw [if_neg h]
theorem rl_b {t : Nat → Nat} {n c p : Nat} (h : dg t n p) (h2 : ¬ hd t n (num t n p).1 = (if c = 0 then 10 else 32)) : rl t n (c + 1) p = .inl (num t n p).1 := by
  show (if dg t n p then _ else _) = _
  rw [if_pos h, if_neg h2]
theorem rl_y {t : Nat → Nat} {n c p : Nat} (h : dg t n p) (h2 : hd t n (num t n p).1 = (if c = 0 then 10 else 32)) : rl t n (c + 1) p = match rl t n c ((num t n p).1 + 1) with
    | .inl q => .inl q
    | .inr (l, p2) => .inr (((num t n p).2, p) :: l, p2) := by
  show (if dg t n p then _ else _) = _
  rw [if_pos h, if_pos h2]
theorem hd_lt {t : Nat → Nat} {n p : Nat} {x : Int32} (h : hd t n p = x) (hx : x ≠ -1) : p < n := by
  unfold hd at h
  split at h
  · assumption
  · exact absurd h.symm hx
theorem hd_dg {t : Nat → Nat} {n p : Nat} (ht : p < n → t p < 256) : (48 ≤ hd t n p ∧ hd t n p ≤ 57) ↔ dg t n p := by
  unfold hd dg
  by_cases hp : p < n
  · rw [if_pos hp]
    have h1 := ht hp
    rw [show (48 : Int32) = nI 48 from rfl, show (57 : Int32) = nI 57 from rfl, nI_leI (by decide) (by omega), nI_leI (by omega) (by decide)]
    exact ⟨fun z => ⟨hp, z⟩, fun z => z.2⟩
  · rw [if_neg hp]
    exact ⟨fun z => absurd z.1 (by decide), fun z => absurd z.1 hp⟩
theorem e_isDigit {sh : sx_S} {h : sx_H} {x : Int32} {f : Int32 → sx_H → Prop} (H1 : 48 ≤ x ∧ x ≤ 57 → f 1 h) (H0 : ¬ (48 ≤ x ∧ x ≤ 57) → f 0 h) : sx_X sh 39 0 [some (.int x)] [] h (sx_qi f) := by
  refine g_39_0 h x ⟨fun z => ⟨Or.inl rfl, H0 (fun q => ?_)⟩, fun z => ⟨fun z2 => ⟨Or.inl rfl, H0 (fun q => ?_)⟩, fun z2 => ⟨Or.inr rfl, H1 ⟨Int32.not_lt.mp z, Int32.not_lt.mp z2⟩⟩⟩⟩
  · exact absurd z (Int32.not_lt.mpr q.1)
  · exact absurd z2 (Int32.not_lt.mpr q.2)
def s1 : Nat → Prop := fun b => b = 1
def s145 : Nat → Prop := fun b => b = 1 ∨ b = 4 ∨ b = 5
theorem s1_145 : ∀ b, s1 b → s145 b := fun _ h => Or.inl h
theorem hw_u (h : sx_H) (a k : Nat) (v : Int32) : (sx_u h.1 a k v, h.2.1, h.2.2) = hw h a (va_up (h.1 a) k v) := rfl
theorem br2 {h h' : sx_H} {n : Nat} {t : Nat → Nat} (x : br h 2 1024 n t) (k : kp s145 h h') : br h' 2 1024 n t := x.kp k (by unfold s145; omega) (by unfold s145; omega)
theorem e_fail {h : sx_H} {w q : Int32} {f : Int32 → sx_H → Prop} (H : ∀ h', kp s1 h h' → h'.1 1 1 = w → h'.1 1 2 = q → f 0 h') : sx_X sx_w 26 0 [some (.ref 1), some (.int w), some (.int q)] [] h (sx_qi f) := by
  refine g_26_0 h 1 w q ⟨⟨rfl, rfl⟩, ⟨rfl, rfl⟩, Or.inl rfl, H _ ⟨fun b hb => ⟨?_, rfl⟩, rfl⟩ ?_ ?_⟩
  · show sx_u (sx_u h.1 1 1 w) 1 2 q b = _
    rw [sx_u_ne hb, sx_u_ne hb]
  · show sx_u (sx_u h.1 1 1 w) 1 2 q 1 1 = _
    rw [sx_u_eq, va_up_ne _ _ (by decide), sx_u_eq, va_up_self]
  · show sx_u (sx_u h.1 1 1 w) 1 2 q 1 2 = _
    rw [sx_u_eq, va_up_self]
theorem e_readByte {h : sx_H} {n p : Nat} {t : Nat → Nat} {due w : Int32} {f : Int32 → sx_H → Prop} (hb : br h 2 1024 n t) (hp : h.1 1 6 = nI p) (hpn : p ≤ n)
    (H1 : hd t n p = due → ∀ h', kp s1 h h' → h'.1 1 6 = nI (p + 1) → (∀ k, k ≠ 6 → h'.1 1 k = h.1 1 k) → f 1 h') (H0 : ¬ hd t n p = due → ∀ h', kp s1 h h' → h'.1 1 1 = w → h'.1 1 2 = nI p → f 0 h') :
    sx_X sx_w 38 0 [some (.ref 1), some (.int due), some (.int w)] [] h (sx_qi f) := by
  have hn : n ≤ 8192 := hb.2.1
  refine g_38_0 h 1 due w ⟨rfl, rfl, rfl, ?_⟩
  rw [hp]
  refine e_byteAt (a := 1 + 1) rfl rfl (Nat.le_refl _) hb ?_
  rw [hdI_nI (by omega)]
  refine ⟨fun z => ⟨rfl, ⟨rfl, rfl⟩, Or.inr rfl, ?_⟩, fun z => ⟨rfl, rfl, ?_⟩⟩
  · refine H1 z _ (kp_hw (S := s1) rfl) ?_ (fun k hk => ?_)
    · show sx_u h.1 1 6 (h.1 1 6 + 1) 1 6 = _
      rw [sx_u_eq, va_up_self, hp, nI_1]
    · show sx_u h.1 1 6 (h.1 1 6 + 1) 1 k = _
      rw [sx_u_eq, va_up_ne _ _ hk]
  · rw [hp]
    exact e_fail (fun h' k e1 e2 => ⟨Or.inl rfl, H0 z h' k e1 e2⟩)
theorem e_readDigits {h : sx_H} {n p : Nat} {t : Nat → Nat} {f : Int32 → sx_H → Prop} (hb : br h 2 1024 n t) (hp : h.1 1 6 = nI p) (hpn : p < n)
    (H : ∀ h', kp s1 h h' → h'.1 1 6 = nI (num t n p).1 → (∀ k, k ≠ 6 → h'.1 1 k = h.1 1 k) → f (nI (num t n p).2) h') : sx_X sx_w 37 0 [some (.ref 1), none, none, none] [] h (sx_qi f) := by
  have hn : n ≤ 8192 := hb.2.1
  have key : ∀ (m i : Nat) (most : Nat), i + m = most → most ≤ 9 → ∀ (h0 : sx_H) (q v : Nat), q ≤ n → kp s1 h h0 → h0.1 1 6 = nI q → (∀ k, k ≠ 6 → h0.1 1 k = h.1 1 k) → nm t n m q v = num t n p → sx_X sx_w 37 27 [some (.ref 1), some (.int (nI most)), some (.int (nI v)), some (.int (nI i))] [] h0 (sx_qi f) := by
    intro m
    induction m with
    | zero =>
      intro i most hi hm h0 q v hq k0 hq6 ho e
      refine g_37_27 h0 1 _ _ _ ⟨fun _ => ?_, fun z => absurd (nI_le (by omega) (by omega)) z⟩
      have e' : (q, v) = num t n p := e
      have := H h0 k0 (by rw [hq6, ← e']) ho
      rw [← e'] at this
      exact this
    | succ m ih =>
      intro i most hi hm h0 q v hq k0 hq6 ho e
      have hb0 : br h0 2 1024 n t := br2 hb (k0.mo s1_145)
      refine g_37_27 h0 1 _ _ _ ⟨fun z => absurd z (nI_ge (by omega) (by omega)), fun _ => ⟨rfl, rfl, rfl, ?_⟩⟩
      rw [hq6]
      refine e_byteAt (a := 1 + 1) rfl rfl (Nat.le_refl _) hb0 ?_
      rw [hdI_nI (by omega)]
      refine e_isDigit (fun z => ⟨fun y => absurd y (by decide), fun _ => ⟨rfl, rfl, rfl, ?_⟩⟩) (fun z => ⟨fun _ => ?_, fun y => absurd rfl y⟩)
      · have hdq : dg t n q := (hd_dg (fun hh => hb0.lt hh)).mp z
        rw [hq6]
        refine e_byteAt (a := 1 + 1) rfl rfl (Nat.le_refl _) hb0 ?_
        rw [hdI_nI (by omega)]
        refine ⟨rfl, ⟨rfl, rfl⟩, ?_⟩
        rw [nm_y hdq] at e
        have ev : (nI v * 10 + hd t n q) - 48 = nI (v * 10 + (t q - 48)) := by
          unfold hd
          rw [if_pos hdq.1, show (10 : Int32) = nI 10 from rfl, show (48 : Int32) = nI 48 from rfl, pk_mul, nI_add, pk_sub (by have := hdq.2.1; omega)]
          congr 1
          have := hdq.2.1
          omega
        rw [ev, hq6, nI_1, nI_1]
        exact ih (i + 1) most (by omega) hm _ (q + 1) _ hdq.1 (k0.tr (kp_hw (S := s1) rfl)) (by
          show sx_u h0.1 1 6 (nI (q + 1)) 1 6 = _
          rw [sx_u_eq, va_up_self]) (fun k hk => by
          show sx_u h0.1 1 6 (nI (q + 1)) 1 k = _
          rw [sx_u_eq, va_up_ne _ _ hk]
          exact ho k hk) e
      · have hdq : ¬ dg t n q := fun y => z ((hd_dg (fun hh => hb0.lt hh)).mpr y)
        rw [nm_n hdq] at e
        have := H h0 k0 (by rw [hq6, ← e]) ho
        rw [← e] at this
        exact this
  refine g_37_0 h 1 ⟨rfl, rfl, rfl, ?_⟩
  rw [hp]
  refine e_byteAt (a := 1 + 1) rfl rfl (Nat.le_refl _) hb ?_
  rw [hdI_nI (by omega)]
  have e48 : hd t n p = 48 ↔ t p = 48 := by
    unfold hd
    rw [if_pos hpn, show (48 : Int32) = nI 48 from rfl, nI_eq (by have := hb.lt hpn; omega) (by decide)]
  refine ⟨fun z => ?_, fun z => ?_⟩
  · exact key 9 0 9 rfl (by decide) h p 0 (by omega) kp.rf hp (fun _ _ => rfl) (by unfold num nmm; rw [if_neg (fun y => z (e48.mpr y))])
  · exact key 1 0 1 rfl (by decide) h p 0 (by omega) kp.rf hp (fun _ _ => rfl) (by unfold num nmm; rw [if_pos (e48.mp z)])
