-- THE REFERENCE'S FOLDS, walked
def kq (h h' : sx_H) : Prop := kp (fun b => b = 40 ∨ 55 ≤ b) h h' ∧ ∀ k, k ≤ 30 → h'.1 40 k = h.1 40 k
theorem kq.rf {h : sx_H} : kq h h := ⟨kp.rf, fun _ _ => rfl⟩
theorem kq.tr {h h1 h2 : sx_H} (x : kq h h1) (y : kq h1 h2) : kq h h2 := ⟨x.1.tr y.1, fun k hk => (y.2 k hk).trans (x.2 k hk)⟩
theorem kp.kq {S : Nat → Prop} {h h' : sx_H} (k : kp S h h') (hS : ∀ b, S b → 55 ≤ b) : kq h h' := ⟨k.mo (fun b hb => Or.inr (hS b hb)), fun q _ => congrFun (k.i (fun z => by have := hS 40 z; omega)) q⟩
theorem kq.kc {h h' : sx_H} (k : kq h h') : kc h h' := k.1.mo (fun b hb => by omega)
theorem kq.rM {h h' : sx_H} {M I O A : Nat} {L OU : List Nat} {G : List gt} (k : kq h h') (hr : rM h M I O A L OU G) : rM h' M I O A L OU G := hr.eq (fun j h1 h2 => k.1.i (by omega)) (fun q _ h2 => k.2 q (by omega))
theorem kq.irr {h h' : sx_H} {n er pl M I O A : Nat} {t : Nat → Nat} {tx L OU : List Nat} {G : List gt} (k : kq h h') (ir : IR h n t tx er pl M I O A L OU G) : IR h' n t tx er pl M I O A L OU G := by
  obtain ⟨i1, i2, i3, i4⟩ := ir
  refine ⟨?_, i2.eq (k.1.i (by omega)) (k.2 4 (by decide)), ⟨by rw [k.2 5 (by decide)]; exact i3.1, by rw [k.2 6 (by decide)]; exact i3.2⟩, k.rM i4⟩
  unfold mt
  rw [k.2 2 (by decide), k.1.i (b := 41) (by omega)]
  exact i1
theorem kq_u {h : sx_H} {a k : Nat} {v : Int32} (ha : 55 ≤ a ∨ (a = 40 ∧ 30 < k)) : kq h (sx_u h.1 a k v, h.2.1, h.2.2) := by
  refine ⟨kp_hw (S := fun b => b = 40 ∨ 55 ≤ b) (a := a) (by omega), fun q hq => ?_⟩
  show sx_u h.1 a k v 40 q = h.1 40 q
  by_cases e : a = 40
  · subst e
    rw [sx_u_eq, va_up_ne _ _ (by omega)]
  · rw [sx_u_ne (fun z => e z.symm)]
theorem f_foldOf {sh : sx_S} {h : sx_H} {x v : Nat} {f : Int32 → sx_H → Prop} (hs : sh.1 = sx_shp) (hx : x / 2 ≤ 1000) (hv : h.1 60 (x / 2) = nI v) (H : f (nI (fl v (x % 2))) h) :
    sx_X sh 103 0 [some (.ref 40), some (.int (nI x))] [] h (sx_qi f) := by
  refine g_103_0 h 40 _ ?_
  rw [rem2_nI (by omega), half_nI (by omega), nI_clamp (by omega), show h.1 (40 + 20) (x / 2) = nI v from hv, nI_xor, xor_fl (by omega)]
  exact ⟨by rw [hs]; rfl, by decide, ⟨by rw [hs]; rfl, by rw [hs]; exact vp_in_nI (N := 1001) (by omega) (by decide)⟩, by decide, H⟩
theorem f_both {h : sx_H} {r x y : Nat} {p q : Nat → Nat} {f : Int32 → sx_H → Prop} (h36 : h.1 40 36 = nI r) (hr : bs x y = none → (∀ j, j < r → ¬ pr2 (p j) (q j) x y) → r < 300) (hr3 : r ≤ 300) (hp : ∀ k, k < r → h.1 61 k = nI (p k) ∧ h.1 62 k = nI (q k) ∧ p k < 4000 ∧ q k < 4000) (hx : x < 4000) (hy : y < 4000)
    (Hs : ∀ v, bs x y = some v → f (nI v) h)
    (Hm : bs x y = none → ∀ k z, ((k < r ∧ z = r ∧ pr2 (p k) (q k) x y) ∨ (k = r ∧ z = r + 1 ∧ ∀ j, j < r → ¬ pr2 (p j) (q j) x y)) → f (nI (3000 + 2 * k)) (sx_u (sx_u (sx_u h.1 61 k (nI x)) 62 k (nI y)) 40 36 (nI z), h.2.1, h.2.2)) :
    sx_X sx_w 105 0 [some (.ref 40), some (.int (nI x)), some (.int (nI y)), none] [] h (sx_qi f) := by
  have e3 : ∀ k : Nat, (3000 : Int32) + 2 * nI k = nI (3000 + 2 * k) := fun k => by
    show nI 3000 + nI 2 * nI k = _
    rw [nI_mul, nI_add]
  have e36 : ∀ k : Nat, sx_u (sx_u h.1 (40 + 21) k (nI x)) (40 + 22) k (nI y) 40 36 = nI r := fun k => by
    rw [sx_u_ne (by decide), sx_u_ne (by decide)]; exact h36
  have loop : bs x y = none → ∀ (e k : Nat), k + e = r → (∀ j, j < k → ¬ pr2 (p j) (q j) x y) → sx_X sx_w 105 45 [some (.ref 40), some (.int (nI x)), some (.int (nI y)), some (.int (nI k))] [] h (sx_qi f) := by
    intro hb e
    induction e with
    | zero =>
      intro k hk hno
      have ek : k = r := by omega
      subst ek
      have h3 := hr hb hno
      have vk : vp_in (nI k) 300 := vp_in_nI h3 (by decide)
      refine g_105_45 h 40 _ _ _ ⟨rfl, ?_⟩
      rw [nI_clamp (n := k) (by omega), e36, h36, e3, nI_1]
      exact pk_le k k (fun _ => ⟨rfl, ⟨rfl, rfl, vk⟩, rfl, ⟨rfl, rfl, vk⟩, rfl, pk_en k k (fun z => absurd rfl z) (fun _ => ⟨⟨rfl, rfl⟩, Hm hb k (k + 1) (Or.inr ⟨rfl, rfl, hno⟩)⟩)⟩) (fun z => absurd z (Nat.lt_irrefl _))
    | succ e ih =>
      intro k hk hno
      obtain ⟨p1, p2, p3, p4⟩ := hp k (by omega)
      have vk : vp_in (nI k) 300 := vp_in_nI (by omega) (by decide)
      have go : ¬ pr2 (p k) (q k) x y → sx_X sx_w 105 45 [some (.ref 40), some (.int (nI x)), some (.int (nI y)), some (.int (nI (k + 1)))] [] h (sx_qi f) := fun hn => ih (k + 1) (by omega) (fun j hj => by
        by_cases c : j < k
        · exact hno j c
        · rw [show j = k by omega]; exact hn)
      have hit : pr2 (p k) (q k) x y → f (nI (3000 + 2 * k)) (sx_u (sx_u (sx_u h.1 61 k (nI x)) 62 k (nI y)) 40 36 (nI r), h.2.1, h.2.2) := fun hq => Hm hb k r (Or.inl ⟨by omega, rfl, hq⟩)
      refine g_105_45 h 40 _ _ _ ⟨rfl, ?_⟩
      rw [nI_clamp (n := k) (by omega), e36, h36, e3, nI_1, show h.1 (40 + 21) k = nI (p k) from p1, show h.1 (40 + 22) k = nI (q k) from p2]
      refine pk_le r k (fun z => (by omega)) (fun _ => ⟨rfl, ⟨rfl, vk⟩, pk_en (p k) x
        (fun y1 => ⟨rfl, ⟨rfl, vk⟩, pk_en (p k) y (fun y2 => go (fun z => by unfold pr2 at z; omega)) (fun y2 => ⟨rfl, ⟨rfl, vk⟩, pk_eq (q k) x (fun y3 => ⟨rfl, ⟨rfl, rfl, vk⟩, rfl, ⟨rfl, rfl, vk⟩, rfl, pk_en k r (fun _ => ⟨rfl, ⟨rfl, rfl⟩, hit (Or.inr ⟨y2, y3⟩)⟩) (fun z => (by omega))⟩) (fun y3 => go (fun z => by unfold pr2 at z; omega))⟩)⟩)
        (fun y1 => ⟨rfl, ⟨rfl, vk⟩, pk_eq (q k) y (fun y3 => ⟨rfl, ⟨rfl, rfl, vk⟩, rfl, ⟨rfl, rfl, vk⟩, rfl, pk_en k r (fun _ => ⟨rfl, ⟨rfl, rfl⟩, hit (Or.inl ⟨y1, y3⟩)⟩) (fun z => (by omega))⟩)
          (fun y3 => ⟨rfl, ⟨rfl, vk⟩, pk_en (p k) y (fun y2 => go (fun z => by unfold pr2 at z; omega)) (fun y2 => ⟨rfl, ⟨rfl, vk⟩, pk_eq (q k) x (fun y4 => ⟨rfl, ⟨rfl, rfl, vk⟩, rfl, ⟨rfl, rfl, vk⟩, rfl, pk_en k r (fun _ => ⟨rfl, ⟨rfl, rfl⟩, hit (Or.inr ⟨y2, y4⟩)⟩) (fun z => (by omega))⟩) (fun y4 => go (fun z => by unfold pr2 at z; omega))⟩)⟩)⟩)⟩)
  have tl : ¬ (x = 0 ∨ y = 0 ∨ (x / 2 = y / 2 ∧ x ≠ y)) → ((¬ (nI x : Int32) = 1 → (((nI y : Int32) = 1 → f (nI x) h) ∧ (¬ (nI y : Int32) = 1 → ((¬ (nI x : Int32) = nI y → sx_X sx_w 105 45 [some (.ref 40), some (.int (nI x)), some (.int (nI y)), some (.int 0)] [] h (sx_qi f)) ∧ ((nI x : Int32) = nI y → f (nI x) h))))) ∧ ((nI x : Int32) = 1 → f (nI y) h)) := fun c1 =>
    pk_en (y := 1) x 1 (fun c2 => pk_eq (y := 1) y 1 (fun c3 => Hs x (by unfold bs; rw [if_neg c1, if_neg c2, if_pos (Or.inl c3)])) (fun c3 => pk_en x y (fun c4 => loop (by unfold bs; rw [if_neg c1, if_neg c2, if_neg (by omega)]) r 0 (by omega) (fun j hj => absurd hj (Nat.not_lt_zero _))) (fun c4 => Hs x (by unfold bs; rw [if_neg c1, if_neg c2, if_pos (Or.inr c4)])))) (fun c2 => Hs y (by unfold bs; rw [if_neg c1, if_pos c2]))
  have z0 : (x = 0 ∨ y = 0 ∨ (x / 2 = y / 2 ∧ x ≠ y)) → f 0 h := fun c1 => Hs 0 (by unfold bs; rw [if_pos c1])
  refine g_105_0 h 40 _ _ ?_
  rw [half_nI (by omega), half_nI (by omega)]
  exact pk_eq (y := 0) x 0 (fun c => z0 (Or.inl c)) (fun c => pk_eq (y := 0) y 0 (fun d => z0 (Or.inr (Or.inl d))) (fun d => ⟨by decide, by decide, pk_en (x / 2) (y / 2) (fun e => tl (by omega)) (fun e => pk_eq x y (fun a => tl (by omega)) (fun a => z0 (Or.inr (Or.inr ⟨e, a⟩))))⟩))
