-- FOLDING IN THE CLASS: fo is a node's fold, hi and lo its greater and lesser literal
theorem nI_xor (a b : Nat) : nI a ^^^ nI b = nI (a ^^^ b) := Int32.toBitVec_inj.mp (BitVec.ofNat_xor (w := 32) (x := a) (y := b)).symm
/-- a literal, inverted or not -/
def fl (a b : Nat) : Nat := 2 * (a / 2) + (a % 2 + b) % 2
theorem xor_fl {a b : Nat} (hb : b < 2) : a ^^^ b = fl a b := by
  have h2 := Nat.xor_div_two (a := a) (b := b)
  rw [show b / 2 = 0 by omega, Nat.xor_zero] at h2
  have h3 := Nat.xor_mod_two_eq_one (a := a) (b := b)
  unfold fl
  by_cases q : (a ^^^ b) % 2 = 1
  · have := h3.mp q
    have q1 : (a % 2 + b) % 2 = 1 := by
      by_cases y : a % 2 = 1
      · have : ¬ b % 2 = 1 := fun z => this ⟨fun _ => z, fun _ => y⟩
        omega
      · have : b % 2 = 1 := Classical.byContradiction (fun z => this ⟨fun h => absurd h y, fun h => absurd h z⟩)
        omega
    omega
  · have q2 : (a % 2 = 1) ↔ (b % 2 = 1) := Classical.byContradiction (fun z => q (h3.mpr z))
    have q1 : (a % 2 + b) % 2 = 0 := by
      by_cases y : a % 2 = 1
      · have := q2.mp y; omega
      · have : ¬ b % 2 = 1 := fun z => y (q2.mpr z)
        omega
    omega
theorem xor_0 {a b : Nat} (h : a ^^^ b = 0) : a = b := by
  have h1 : (a ^^^ b) ^^^ b = a := by rw [Nat.xor_assoc, Nat.xor_self, Nat.xor_zero]
  rw [h, Nat.zero_xor] at h1
  exact h1.symm
theorem xor_1 {a b : Nat} : a ^^^ b = 1 ↔ (a / 2 = b / 2 ∧ a ≠ b) := by
  have h2 := Nat.xor_div_two (a := a) (b := b)
  have h3 := Nat.xor_mod_two_eq_one (a := a) (b := b)
  refine ⟨fun z => ?_, fun z => ?_⟩
  · rw [z] at h2 h3
    refine ⟨xor_0 (h2.symm.trans (by decide)), fun e => ?_⟩
    rw [e, Nat.xor_self] at z
    omega
  · rw [z.1, Nat.xor_self] at h2
    have q : (a ^^^ b) % 2 = 1 := h3.mpr (fun y => by
      apply z.2
      have h1 := z.1
      by_cases y1 : a % 2 = 1
      · have := y.mp y1; omega
      · have : ¬ b % 2 = 1 := fun z => y1 (y.mpr z)
        omega)
    omega
theorem pk_en {x y : Int32} {A B : Prop} (a b : Nat) (g : a ≠ b → B) (f : a = b → A) (hx : x = nI a := by rfl) (hy : y = nI b := by rfl) (ha : a < 2 ^ 31 := by omega) (hb : b < 2 ^ 31 := by omega) : (¬ x = y → B) ∧ (x = y → A) := (pk_eq a b f g hx hy ha hb).symm
theorem e_foldOf {sh : sx_S} {h : sx_H} {c x v : Nat} {f : Int32 → sx_H → Prop} (hk : (sh.1 c).1 = 5) (hs : sh.1 (c + 10) = (1, 315)) (hx : x / 2 < 315) (hv : h.1 (c + 10) (x / 2) = nI v) (H : f (nI (fl v (x % 2))) h) :
    sx_X sh 19 0 [some (.ref c), some (.int (nI x))] [] h (sx_qi f) := by
  refine g_19_0 h c _ ⟨hk, e_pick hs (by decide) ?_⟩
  rw [sh_half (by omega), pk_nI hx (by decide), hv, an_1 (by omega), nI_xor, xor_fl (by omega)]
  exact H
abbrev fX (fo hi : Nat → Nat) (n : Nat) : Nat := fl (fo (hi n / 2)) (hi n % 2)
def bs (x y : Nat) : Option Nat := if x = 0 ∨ y = 0 ∨ (x / 2 = y / 2 ∧ x ≠ y) then some 0 else if x = 1 then some y else if y = 1 ∨ x = y then some x else none
def isA (fo hi lo : Nat → Nat) (m x y : Nat) : Prop := fo m = 2 * m ∧ ((fX fo hi m = x ∧ fX fo lo m = y) ∨ (fX fo hi m = y ∧ fX fo lo m = x))
def FC (I : Nat) (fo hi lo : Nat → Nat) (n r : Nat) : Prop :=
  (∃ v, bs (fX fo hi n) (fX fo lo n) = some v ∧ r = v) ∨ (bs (fX fo hi n) (fX fo lo n) = none ∧ ((∃ m, I < m ∧ m < n ∧ isA fo hi lo m (fX fo hi n) (fX fo lo n) ∧ r = 2 * m) ∨ ((∀ m, I < m → m < n → ¬ isA fo hi lo m (fX fo hi n) (fX fo lo n)) ∧ r = 2 * n)))
theorem FC_cg {I N n r : Nat} {fo fo' hi lo : Nat → Nat} (hb : ∀ m, I < m → m < N → hi m / 2 < m ∧ lo m / 2 < m) (h1 : I < n) (h2 : n < N) (e : ∀ k, k < n → fo k = fo' k) (h : FC I fo hi lo n r) : FC I fo' hi lo n r := by
  have eX : ∀ m, I < m → m ≤ n → fX fo hi m = fX fo' hi m ∧ fX fo lo m = fX fo' lo m := fun m a b => by
    obtain ⟨c1, c2⟩ := hb m a (by omega)
    unfold fX
    rw [e _ (by omega), e _ (by omega)]
    exact ⟨rfl, rfl⟩
  have eA : ∀ m x y, I < m → m < n → (isA fo hi lo m x y ↔ isA fo' hi lo m x y) := fun m x y a b => by
    obtain ⟨c1, c2⟩ := eX m a (by omega)
    unfold isA
    rw [e m b, c1, c2]
  obtain ⟨c1, c2⟩ := eX n h1 (Nat.le_refl _)
  unfold FC at h ⊢
  rw [c1, c2] at h
  refine h.imp id (fun z => ⟨z.1, z.2.imp (fun ⟨m, a, b, c, d⟩ => ⟨m, a, b, (eA m _ _ a b).mp c, d⟩) (fun z => ⟨fun m a b c => z.1 m a b ((eA m _ _ a b).mpr c), z.2⟩)⟩)
def hlR (h : sx_H) (c I N : Nat) (hi lo : Nat → Nat) : Prop := ∀ n, I < n → n < N → h.1 (c + 8) n = nI (hi n) ∧ h.1 (c + 9) n = nI (lo n) ∧ hi n / 2 < n ∧ lo n / 2 < n
def foR (h : sx_H) (c k : Nat) (fo : Nat → Nat) : Prop := ∀ n, n < k → h.1 (c + 10) n = nI (fo n) ∧ fo n ≤ 2 * n
theorem fX_le {fo hi : Nat → Nat} {n : Nat} (h1 : hi n / 2 < n) (h2 : fo (hi n / 2) ≤ 2 * (hi n / 2)) : fX fo hi n < 2 * n := by
  unfold fX fl
  omega
theorem e_isAndOf {sh : sx_S} {h : sx_H} {c I N n mx mn k : Nat} {fo hi lo : Nat → Nat} {f : Int32 → sx_H → Prop} (hs : sh.1 = sx_shp) (hc : cc c) (hN : N ≤ 315) (hr : hlR h c I N hi lo) (hf : foR h c k fo) (h1 : I < n) (h2 : n < k) (hk : k ≤ N) (hm1 : mx < 2 ^ 30) (hm2 : mn < 2 ^ 30)
    (H1 : isA fo hi lo n mx mn → f 1 h) (H0 : ¬ isA fo hi lo n mx mn → f 0 h) : sx_X sh 22 0 [some (.ref c), some (.int (nI n)), some (.int (nI mx)), some (.int (nI mn)), none, none] [] h (sx_qi f) := by
  obtain ⟨q0, q1, q2, q3, q4, q5, q6, q7, q8, q9, q10⟩ := cc_sh hc
  rw [← hs] at q0 q8 q9 q10
  obtain ⟨r1, r2, r3, r4⟩ := hr n h1 (by omega)
  obtain ⟨f1, f2⟩ := hf n h2
  obtain ⟨f3, f4⟩ := hf (hi n / 2) (by omega)
  obtain ⟨f5, f6⟩ := hf (lo n / 2) (by omega)
  have b1 := fX_le r3 f4
  have b2 := fX_le r4 f6
  refine g_22_0 h c _ _ _ ⟨q0, e_pick q10 (by decide) ?_⟩
  rw [pk_nI (by omega) (by decide), f1, show (2 : Int32) = nI 2 from rfl, pk_mul]
  refine pk_eq (fo n) (2 * n) (fun z => ⟨q0, e_pick q8 (by decide) ⟨q0, ?_⟩⟩) (fun z => ⟨Or.inl rfl, H0 (fun y => z y.1)⟩)
  rw [pk_nI (by omega) (by decide), r1]
  refine e_foldOf q0 q10 (by omega) f3 ⟨q0, e_pick q9 (by decide) ⟨q0, ?_⟩⟩
  rw [pk_nI (by omega) (by decide), r2]
  refine e_foldOf q0 q10 (by omega) f5 ?_
  have e1 : fl (fo (hi n / 2)) (hi n % 2) = fX fo hi n := rfl
  have e2 : fl (fo (lo n / 2)) (lo n % 2) = fX fo lo n := rfl
  rw [e1, e2]
  have yes : (fX fo hi n = mx ∧ fX fo lo n = mn) ∨ (fX fo hi n = mn ∧ fX fo lo n = mx) → ((1 : Int32) = 0 ∨ (1 : Int32) = 1) ∧ f 1 h := fun y => ⟨Or.inr rfl, H1 ⟨z, y⟩⟩
  have no : ¬ ((fX fo hi n = mx ∧ fX fo lo n = mn) ∨ (fX fo hi n = mn ∧ fX fo lo n = mx)) → ((0 : Int32) = 0 ∨ (0 : Int32) = 1) ∧ f 0 h := fun y => ⟨Or.inl rfl, H0 (fun q => y q.2)⟩
  refine pk_en (fX fo hi n) mx (fun z1 => pk_en (fX fo hi n) mn (fun z2 => no (by omega)) (fun z2 => pk_en (fX fo lo n) mx (fun z3 => no (by omega)) (fun z3 => yes (by omega)))) (fun z1 => pk_eq (fX fo lo n) mn (fun z2 => yes (by omega)) (fun z2 => pk_en (fX fo hi n) mn (fun z3 => no (by omega)) (fun z3 => pk_en (fX fo lo n) mx (fun z4 => no (by omega)) (fun z4 => yes (by omega)))))
theorem isA_mm {fo hi lo : Nat → Nat} {m x y : Nat} : isA fo hi lo m (max x y) (min x y) ↔ isA fo hi lo m x y := by
  unfold isA
  rcases Nat.le_total x y with h | h
  · rw [Nat.max_eq_right h, Nat.min_eq_left h]
    exact and_congr_right (fun _ => or_comm)
  · rw [Nat.max_eq_left h, Nat.min_eq_right h]
theorem e_foldedAnd {sh : sx_S} {h : sx_H} {c I N n : Nat} {fo hi lo : Nat → Nat} {f : Int32 → sx_H → Prop} (hs : sh.1 = sx_shp) (hc : cc c) (hN : N ≤ 315) (hI : h.1 c 0 = nI I) (hr : hlR h c I N hi lo) (hf : foR h c n fo) (h1 : I < n) (h2 : n < N)
    (H : ∀ r, FC I fo hi lo n r → r ≤ 2 * n → f (nI r) h) : sx_X sh 21 0 [some (.ref c), some (.int (nI n)), none, none, none, none, none] [] h (sx_qi f) := by
  obtain ⟨q0, q1, q2, q3, q4, q5, q6, q7, q8, q9, q10⟩ := cc_sh hc
  rw [← hs] at q0 q8 q9 q10
  obtain ⟨r1, r2, r3, r4⟩ := hr n h1 (by omega)
  obtain ⟨f3, f4⟩ := hf (hi n / 2) (by omega)
  obtain ⟨f5, f6⟩ := hf (lo n / 2) (by omega)
  have b1 := fX_le r3 f4
  have b2 := fX_le r4 f6
  refine g_21_0 h c _ ⟨q0, e_pick q8 (by decide) ⟨q0, ?_⟩⟩
  rw [pk_nI (by omega) (by decide), r1]
  refine e_foldOf q0 q10 (by omega) f3 ⟨q0, e_pick q9 (by decide) ⟨q0, ?_⟩⟩
  rw [pk_nI (by omega) (by decide), r2]
  refine e_foldOf q0 q10 (by omega) f5 ?_
  have e1 : fl (fo (hi n / 2)) (hi n % 2) = fX fo hi n := rfl
  have e2 : fl (fo (lo n / 2)) (lo n % 2) = fX fo lo n := rfl
  rw [e1, e2, mx_nI (by omega) (by omega), mn_nI (by omega) (by omega), nI_xor]
  revert b1 b2
  generalize ex : fX fo hi n = x
  generalize ey : fX fo lo n = y
  intro b1 b2
  have base : ∀ v, bs x y = some v → v ≤ 2 * n → f (nI v) h := fun v e b => H v (Or.inl ⟨v, by rw [ex, ey]; exact e, rfl⟩) b
  have hxor : max x y ^^^ min x y < 2 ^ 31 := by
    have := Nat.xor_lt_two_pow (x := max x y) (y := min x y) (n := 30) (by omega) (by omega)
    omega
  refine pk_eq (y := 0) (min x y) 0 (fun z => ?_) (fun z => ?_)
  · refine base 0 ?_ (by omega)
    unfold bs
    rw [if_pos (by omega)]
  refine pk_en (y := 1) (max x y ^^^ min x y) 1 (fun z1 => ?_) (fun z1 => ?_)
  · have hb0 : ¬ (x = 0 ∨ y = 0 ∨ (x / 2 = y / 2 ∧ x ≠ y)) := fun q => z1 (xor_1.mpr (by omega))
    refine pk_eq (y := 1) (min x y) 1 (fun z2 => ?_) (fun z2 => ?_)
    · refine base (max x y) ?_ (by omega)
      unfold bs
      rw [if_neg hb0]
      by_cases q : x = 1
      · rw [if_pos q]; congr 1; omega
      · rw [if_neg q, if_pos (by omega)]; congr 1; omega
    · refine pk_en (max x y) (min x y) (fun z3 => ⟨q0, ?_⟩) (fun z3 => ?_)
      · have hbn : bs x y = none := by
          unfold bs
          rw [if_neg hb0, if_neg (by omega), if_neg (by omega)]
        rw [hI, nI_1]
        have key : ∀ (e m : Nat), m + e = n → I < m → (∀ m', I < m' → m' < m → ¬ isA fo hi lo m' x y) → sx_X sh 21 80 [some (.ref c), some (.int (nI n)), some (.int (nI x)), some (.int (nI y)), some (.int (nI (max x y))), some (.int (nI (min x y))), some (.int (nI m))] [] h (sx_qi f) := by
          intro e
          induction e with
          | zero =>
            intro m hm hIm hno
            refine g_21_80 h c _ _ _ _ _ _ (pk_le n m (fun _ => ?_) (fun z => (by omega)))
            rw [show (2 : Int32) = nI 2 from rfl, pk_mul]
            refine H (2 * n) (Or.inr ⟨by rw [ex, ey]; exact hbn, Or.inr ⟨fun m' a b => ?_, rfl⟩⟩) (Nat.le_refl _)
            rw [ex, ey]
            exact hno m' a (by omega)
          | succ e ih =>
            intro m hm hIm hno
            refine g_21_80 h c _ _ _ _ _ _ (pk_le n m (fun z => (by omega)) (fun _ => ⟨q0, ?_⟩))
            refine e_isAndOf hs hc hN hr hf hIm (by omega) (by omega) (by omega) (by omega) (fun z => ⟨fun y => absurd y (by decide), fun _ => ?_⟩) (fun z => ⟨fun _ => ?_, fun y => absurd rfl y⟩)
            · rw [show (2 : Int32) = nI 2 from rfl, pk_mul]
              refine H (2 * m) (Or.inr ⟨by rw [ex, ey]; exact hbn, Or.inl ⟨m, hIm, by omega, ?_, rfl⟩⟩) (by omega)
              rw [ex, ey]
              exact isA_mm.mp z
            · rw [nI_1]
              refine ih (m + 1) (by omega) (by omega) (fun m' a b => ?_)
              rcases Nat.lt_or_ge m' m with q | q
              · exact hno m' a q
              · rw [show m' = m by omega]
                exact fun y => z (isA_mm.mpr y)
        exact key (n - (I + 1)) (I + 1) (by omega) (by omega) (fun m' a b => (by omega))
      · refine base (max x y) ?_ (by omega)
        unfold bs
        rw [if_neg hb0, if_neg (by omega), if_pos (by omega)]
        congr 1
        omega
  · refine base 0 ?_ (by omega)
    have := xor_1.mp z1
    unfold bs
    rw [if_pos (by omega)]
theorem e_nodeCount {sh : sx_S} {h : sx_H} {c I A : Nat} {f : Int32 → sx_H → Prop} (hk : (sh.1 c).1 = 5) (hI : h.1 c 0 = nI I) (hA : h.1 c 1 = nI A) (H : f (nI (I + 1 + A)) h) : sx_X sh 10 0 [some (.ref c)] [] h (sx_qi f) := by
  refine g_10_0 h c ⟨hk, hk, ?_⟩
  have e : (1 + nI I) + nI A = nI (I + 1 + A) := by
    rw [show (1 : Int32) = nI 1 from rfl, nI_add, nI_add, Nat.add_comm 1 I]
  rw [hI, hA, e]
  exact H
theorem e_foldAll {h : sx_H} {c I A : Nat} {hi lo : Nat → Nat} {f : sx_H → Prop} (hc : cc c) (hI : h.1 c 0 = nI I) (hA : h.1 c 1 = nI A) (hN : I + 1 + A ≤ 315) (hr : hlR h c I (I + 1 + A) hi lo)
    (H : ∀ h' fo, kp (fun b => b = c + 10) h h' → foR h' c (I + 1 + A) fo → (∀ n, n ≤ I → fo n = 2 * n) → (∀ n, I < n → n < I + 1 + A → FC I fo hi lo n (fo n)) → f h') :
    sx_X sx_w 18 0 [some (.ref c), none] [] h (sx_qv f) := by
  obtain ⟨q0, q1, q2, q3, q4, q5, q6, q7, q8, q9, q10⟩ := cc_sh hc
  have hb : ∀ m, I < m → m < I + 1 + A → hi m / 2 < m ∧ lo m / 2 < m := fun m a b => (hr m a b).2.2
  have nel : ∀ {h0 : sx_H} {j : Nat}, kp (fun b => b = c + 10) h h0 → j ≠ 10 → h0.1 (c + j) = h.1 (c + j) := fun {h0 j} k hj => k.i (fun q : c + j = c + 10 => hj (by omega))
  have nel0 : ∀ {h0 : sx_H}, kp (fun b => b = c + 10) h h0 → h0.1 c = h.1 c := fun {h0} k => nel (j := 0) k (by decide)
  have key2 : ∀ (e n : Nat) (fo : Nat → Nat) (h0 : sx_H), n + e = I + 1 + A → I < n → kp (fun b => b = c + 10) h h0 → foR h0 c n fo → (∀ m, m ≤ I → fo m = 2 * m) → (∀ m, I < m → m < n → FC I fo hi lo m (fo m)) → sx_X sx_w 18 34 [some (.ref c), some (.int (nI n))] [] h0 (sx_qv f) := by
    intro e
    induction e with
    | zero =>
      intro n fo h0 hn hIn k0 hf h00 hF
      refine g_18_34 h0 c _ ⟨q0, e_nodeCount q0 (by rw [nel0 k0]; exact hI) (by rw [nel0 k0]; exact hA) ?_⟩
      refine pk_le (I + 1 + A) n (fun _ => ?_) (fun z => (by omega))
      rw [show n = I + 1 + A by omega] at hf hF
      exact H h0 fo k0 hf h00 hF
    | succ e ih =>
      intro n fo h0 hn hIn k0 hf h00 hF
      have hr0 : hlR h0 c I (I + 1 + A) hi lo := fun m a b => by rw [nel k0 (by decide), nel k0 (by decide)]; exact hr m a b
      have hI0 : h0.1 c 0 = nI I := by rw [nel0 k0]; exact hI
      refine g_18_34 h0 c _ ⟨q0, e_nodeCount q0 hI0 (by rw [nel0 k0]; exact hA) ?_⟩
      refine pk_le (I + 1 + A) n (fun z => (by omega)) (fun _ => ⟨q0, q0, ?_⟩)
      refine e_foldedAnd rfl hc hN hI0 hr0 hf hIn (by omega) (fun r hF1 hr1 => ?_)
      refine e_store (n := 315) rfl q10 (by decide) ?_
      rw [st_nI (by omega) (by decide), nI_1]
      have ne : ∀ k, k ≠ n → va_up fo n r k = fo k := fun k hk => va_up_ne _ _ hk
      refine ih (n + 1) (va_up fo n r) _ (by omega) (by omega) (k0.tr (kp_hw (S := fun b => b = c + 10) rfl)) (fun m hm => ?_) (fun m hm => ?_) (fun m a b => ?_)
      · rw [hw_self]
        by_cases q : m = n
        · rw [q, va_up_self, va_up_self]; exact ⟨rfl, hr1⟩
        · rw [va_up_ne _ _ q, ne m q]; exact hf m (by omega)
      · rw [ne m (by omega)]; exact h00 m hm
      · by_cases q : m = n
        · rw [q, va_up_self]
          exact FC_cg hb hIn (by omega) (fun k hk => (ne k (by omega)).symm) hF1
        · rw [ne m q]
          exact FC_cg hb a (by omega) (fun k hk => (ne k (by omega)).symm) (hF m a (by omega))
  have key1 : ∀ (e n : Nat) (h0 : sx_H), n + e = I + 1 → kp (fun b => b = c + 10) h h0 → (∀ m, m < n → h0.1 (c + 10) m = nI (2 * m)) → sx_X sx_w 18 2 [some (.ref c), some (.int (nI n))] [] h0 (sx_qv f) := by
    intro e
    induction e with
    | zero =>
      intro n h0 hn k0 hf
      have hI0 : h0.1 c 0 = nI I := by rw [nel0 k0]; exact hI
      refine g_18_2 h0 c _ ⟨q0, ?_⟩
      rw [hI0]
      refine pk_lt I n (fun _ => ⟨q0, ?_⟩) (fun z => (by omega))
      rw [nI_1]
      exact key2 A (I + 1) (fun m => 2 * m) h0 rfl (by omega) k0 (fun m hm => ⟨hf m (by omega), Nat.le_refl _⟩) (fun _ _ => rfl) (fun m a b => (by omega))
    | succ e ih =>
      intro n h0 hn k0 hf
      have hI0 : h0.1 c 0 = nI I := by rw [nel0 k0]; exact hI
      refine g_18_2 h0 c _ ⟨q0, ?_⟩
      rw [hI0]
      refine pk_lt I n (fun z => (by omega)) (fun _ => ⟨q0, ?_⟩)
      refine e_store (n := 315) rfl q10 (by decide) ?_
      rw [st_nI (by omega) (by decide), show (2 : Int32) = nI 2 from rfl, pk_mul, nI_1]
      refine ih (n + 1) _ (by omega) (k0.tr (kp_hw (S := fun b => b = c + 10) rfl)) (fun m hm => ?_)
      rw [hw_self]
      by_cases q : m = n
      · rw [q, va_up_self]
      · rw [va_up_ne _ _ q]; exact hf m (by omega)
  exact g_18_0 h c (key1 (I + 1) 0 h (by omega) kp.rf (fun m hm => absurd hm (Nat.not_lt_zero _)))
