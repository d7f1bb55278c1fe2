-- ROWS OF BYTES (ByteRow): a at the row's object, a + 1 its longs
/-- what a heap keeps: all rows but those that S names; the references -/
def kp (S : Nat → Prop) (h h' : sx_H) : Prop := (∀ b, ¬ S b → h'.1 b = h.1 b ∧ h'.2.1 b = h.2.1 b) ∧ h'.2.2 = h.2.2
theorem kp.rf {S : Nat → Prop} {h : sx_H} : kp S h h := ⟨fun _ _ => ⟨rfl, rfl⟩, rfl⟩
theorem kp.tr {S : Nat → Prop} {h h1 h2 : sx_H} (x : kp S h h1) (y : kp S h1 h2) : kp S h h2 := ⟨fun b hb => ⟨(y.1 b hb).1.trans (x.1 b hb).1, (y.1 b hb).2.trans (x.1 b hb).2⟩, y.2.trans x.2⟩
theorem kp.mo {S S' : Nat → Prop} {h h1 : sx_H} (x : kp S h h1) (m : ∀ b, S b → S' b) : kp S' h h1 := ⟨fun b hb => x.1 b (fun q => hb (m b q)), x.2⟩
theorem kp.i {S : Nat → Prop} {h h1 : sx_H} (x : kp S h h1) {b : Nat} (hb : ¬ S b) : h1.1 b = h.1 b := (x.1 b hb).1
theorem kp.l {S : Nat → Prop} {h h1 : sx_H} (x : kp S h h1) {b : Nat} (hb : ¬ S b) : h1.2.1 b = h.2.1 b := (x.1 b hb).2
theorem kp_hw {S : Nat → Prop} {h : sx_H} {a : Nat} {row : Nat → Int32} (ha : S a) : kp S h (hw h a row) := ⟨fun b hb => ⟨hw_ne h row (fun e => hb (e ▸ ha)), rfl⟩, rfl⟩
def br (h : sx_H) (a W n : Nat) (t : Nat → Nat) : Prop := h.1 a 0 = nI n ∧ n ≤ 8 * W ∧ ∀ i, i < n → w8 (h.2.1 (a + 1) (i / 8)) (i % 8) = t i
theorem br.lt {h : sx_H} {a W n : Nat} {t : Nat → Nat} (x : br h a W n t) {i : Nat} (hi : i < n) : t i < 256 := by rw [← x.2.2 i hi]; exact w8_lt _ _
theorem br.kp {S : Nat → Prop} {h h' : sx_H} {a W n : Nat} {t : Nat → Nat} (x : br h a W n t) (k : kp S h h') (h1 : ¬ S a) (h2 : ¬ S (a + 1)) : br h' a W n t := by
  refine ⟨by rw [k.i h1]; exact x.1, x.2.1, fun i hi => ?_⟩
  rw [k.l h2]
  exact x.2.2 i hi
/-- the byte at a place, -1 where there is none -/
def hd (t : Nat → Nat) (n p : Nat) : Int32 := if p < n then nI (t p) else -1
def hdI (t : Nat → Nat) (n : Nat) (k : Int32) : Int32 := if 0 ≤ k.toInt then hd t n k.toInt.toNat else -1
theorem hdI_nI {t : Nat → Nat} {n p : Nat} (hp : p < 2 ^ 31) : hdI t n (nI p) = hd t n p := by
  unfold hdI
  rw [nI_toInt hp, if_pos (by omega)]
  rfl
theorem rem8 {k : Nat} (hk : k < 2 ^ 31) : (nI k - nI k / 8 * 8) * 8 = nI (8 * (k % 8)) := by
  have h1 := pk_rem (a := k) (d := 8) hk (by decide) (by decide)
  have h2 : (nI k - nI k / 8 * 8) = nI (k % 8) := h1
  rw [h2, show (8 : Int32) = nI 8 from rfl, pk_mul, Nat.mul_comm]
theorem div8 {k : Nat} (hk : k < 2 ^ 31) : nI k / 8 = nI (k / 8) := pk_div hk (by decide) (by decide)
theorem e_byteAt {sh : sx_S} {h : sx_H} {a W n : Nat} {t : Nat → Nat} {k : Int32} {f : Int32 → sx_H → Prop} (ha : (sh.1 a).1 = 4) (hl : sh.1 (a + 1) = (2, W)) (hW : W ≤ 1024) (hb : br h a W n t) (H : f (hdI t n k) h) :
    sx_X sh 3 0 [some (.ref a), some (.int k), none] [] h (sx_qi f) := by
  have hn : n ≤ 8192 := by have := hb.2.1; omega
  refine g_3_0 h a k ?_
  rw [hl, hb.1]
  refine ⟨by decide, fun z => ?_, fun z => ⟨ha, fun z1 => ?_, fun z1 => ⟨ha, Or.inr rfl, fun z2 => ⟨ha, ⟨rfl, ?_⟩, by decide, ?_⟩, fun z2 => ?_⟩⟩⟩
  · have h0 : k.toInt < 0 := ix_lt.mp z
    unfold hdI at H
    rw [if_neg (by omega)] at H
    exact H
  · have h0 : ¬ k.toInt < 0 := fun q => z (ix_lt.mpr q)
    obtain ⟨j, hj, rfl⟩ := nI_of z
    rw [hdI_nI hj] at H
    have : n ≤ j := (nI_leI (by omega) hj).mp z1
    unfold hd at H
    rw [if_neg (by omega)] at H
    exact H
  · obtain ⟨j, hj, rfl⟩ := nI_of z
    have hjn : j < n := Nat.not_le.mp (fun q => z1 (nI_le q hj))
    rw [div8 hj]
    exact vp_in_nI (by have := hb.2.1; omega) (by omega)
  · obtain ⟨j, hj, rfl⟩ := nI_of z
    have hjn : j < n := Nat.not_le.mp (fun q => z1 (nI_le q hj))
    rw [hdI_nI hj] at H
    unfold hd at H
    rw [if_pos hjn] at H
    rw [rem8 hj, w8_get _ (by omega), div8 hj, nI_clamp (by omega), hb.2.2 j hjn]
    exact H
  · exfalso
    obtain ⟨j, hj, rfl⟩ := nI_of z
    have hjn : j < n := Nat.not_le.mp (fun q => z1 (nI_le q hj))
    rw [div8 hj] at z2
    exact z2 (nI_lt (by have := hb.2.1; omega) (by omega))
theorem e_clear {sh : sx_S} {h : sx_H} {a : Nat} {f : sx_H → Prop} (hwr : sh.2 = true) (ha : (sh.1 a).1 = 4) (H : f (hw h a (va_up (h.1 a) 0 0))) : sx_X sh 1 0 [some (.ref a)] [] h (sx_qv f) :=
  g_1_0 h a ⟨⟨hwr, ha⟩, H⟩
theorem e_add {sh : sx_S} {h : sx_H} {a W n : Nat} {t : Nat → Nat} {x : Int32} {f : sx_H → Prop} (hwr : sh.2 = true) (ha : (sh.1 a).1 = 4) (hl : sh.1 (a + 1) = (2, W)) (hW : W ≤ 1024) (hb : br h a W n t) (hn : n < 8 * W)
    (H : ∀ h', br h' a W (n + 1) (va_up t n (x.toBitVec.toNat % 256)) → kp (fun b => b = a ∨ b = a + 1) h h' → f h') : sx_X sh 2 0 [some (.ref a), some (.int x), none, none] [] h (sx_qv f) := by
  have hn2 : n < 2 ^ 31 := by omega
  refine g_2_0 h a x ?_
  rw [hl, hb.1]
  refine ⟨ha, by decide, fun z => ?_, fun _ => ⟨ha, Or.inr rfl, fun z => ?_, fun _ => ⟨ha, by decide, ha, ha, ⟨rfl, ?_⟩, ⟨hwr, rfl, ?_⟩, ha, ⟨hwr, ha⟩, H _ ⟨?_, ?_, fun i hi => ?_⟩ ⟨fun b hb' => ⟨?_, ?_⟩, rfl⟩⟩⟩⟩
  · exfalso; rw [div8 hn2] at z; exact nI_pos (by omega) z
  · exfalso; rw [div8 hn2] at z; exact nI_ge (a := n / 8) (b := W) (by omega) (by omega) z
  · rw [div8 hn2]; exact vp_in_nI (by omega) (by omega)
  · rw [div8 hn2]; exact vp_in_nI (by omega) (by omega)
  · show sx_u h.1 a 0 (nI n + 1) a 0 = _
    rw [sx_u_eq, va_up_self, nI_1]
  · omega
  · show w8 (sx_u h.2.1 (a + 1) (Int32.toNatClampNeg (nI n / 8)) _ (a + 1) (i / 8)) (i % 8) = _
    rw [rem8 hn2, div8 hn2, nI_clamp (by omega), sx_u_eq]
    obtain ⟨s1, s2⟩ := w8_set (h.2.1 (a + 1) (n / 8)) (j := n % 8) (by omega) x
    by_cases e1 : i = n
    · subst e1
      rw [va_up_self, va_up_self]
      exact s1
    · rw [va_up_ne _ _ e1]
      have hlt : i < n := by omega
      by_cases e2 : i / 8 = n / 8
      · rw [e2, va_up_self, s2 (i % 8) (by omega) (by omega), ← e2]
        exact hb.2.2 i hlt
      · rw [va_up_ne _ _ e2]
        exact hb.2.2 i hlt
  · exact sx_u_ne (fun e => hb' (Or.inl e))
  · exact sx_u_ne (fun e => hb' (Or.inr e))
