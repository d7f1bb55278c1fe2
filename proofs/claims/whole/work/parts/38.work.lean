-- THE CLASS WORKS A CIRCUIT, AND MARKS CONES (Walker: object 10, values 11, marks 12, written 13)
theorem smd {k : Nat} (h : k < 32) : ((nI k &&& 31).toBitVec.smod 32).toNat = k := by
  have : ∀ k : Fin 32, ((nI k.val &&& 31).toBitVec.smod 32).toNat = k.val := by decide +kernel
  exact this ⟨k, h⟩
theorem pw14 {I : Nat} (h : I ≤ 14) : 2 ^ I ≤ 16384 := Nat.le_trans (Nat.pow_le_pow_right (by decide) h) (by decide)
theorem e_takes {sh : sx_S} {h : sx_H} {c I : Nat} {x : Int32} {f : Int32 → sx_H → Prop} (hk : (sh.1 c).1 = 5) (hI : h.1 c 0 = nI I) (hI' : I ≤ 14) (H1 : ∀ m : Nat, x = nI m → m < 2 ^ I → f 1 h) (H0 : ¬ (0 ≤ x.toInt ∧ x.toInt < (2 ^ I : Nat)) → f 0 h) :
    sx_X sh 9 0 [some (.ref c), some (.int x)] [] h (sx_qi f) := by
  have hp := pw14 hI'
  refine g_9_0 h c x ⟨fun z => ⟨Or.inl rfl, H0 (fun q => ?_)⟩, fun z => ⟨hk, ?_⟩⟩
  · have := ix_lt.mp z
    omega
  · obtain ⟨m, hm, rfl⟩ := nI_of z
    rw [hI]
    have e : (1 : Int32) <<< (nI I &&& 31) = nI (2 ^ I) := by
      have := pk_shlN (n := 1) (nI I &&& 31) I (smd (by omega)) (by omega)
      rw [Nat.one_mul] at this
      exact this
    rw [e]
    refine pk_le (2 ^ I) m (fun z1 => ⟨Or.inl rfl, H0 (fun q => ?_)⟩) (fun z1 => ⟨Or.inr rfl, H1 m rfl z1⟩)
    rw [nI_toInt hm] at q
    omega
theorem bit_and {a b : Nat} (ha : a < 2) (hb : b < 2) : nI a &&& nI b = nI (a * b) := by
  have : ∀ a b : Fin 2, nI a.val &&& nI b.val = nI (a.val * b.val) := by decide +kernel
  exact this ⟨a, ha⟩ ⟨b, hb⟩
theorem e_worked {sh : sx_S} {h : sx_H} {x v : Nat} {f : Int32 → sx_H → Prop} (hs : sh.1 = sx_shp) (hx : x / 2 < 315) (hv : h.1 11 (x / 2) = nI v) (H : f (nI (fl v (x % 2))) h) :
    sx_X sh 48 0 [some (.ref 10), some (.int (nI x))] [] h (sx_qi f) := by
  refine g_48_0 h 10 _ ⟨by rw [hs]; rfl, e_pick (a := 10 + 1) (n := 315) (by rw [hs]; rfl) (by decide) ?_⟩
  rw [sh_half (by omega), pk_nI hx (by decide), show h.1 (10 + 1) (x / 2) = nI v from hv, an_1 (by omega), nI_xor, xor_fl (by omega)]
  exact H
abbrev lv (vl : Nat → Nat) (x : Nat) : Nat := fl (vl (x / 2)) (x % 2)
theorem lv_2 {vl : Nat → Nat} {x : Nat} (h : vl (x / 2) < 2) : lv vl x < 2 := by unfold lv fl; omega
/-- what each node's value must be -/
def vE (I N m : Nat) (hi lo vl : Nat → Nat) : Prop := vl 0 = 0 ∧ (∀ k, k < I → vl (k + 1) = m / 2 ^ k % 2) ∧ ∀ n, I < n → n < N → vl n = lv vl (hi n) * lv vl (lo n)
theorem e_work {h : sx_H} {c I A m : Nat} {hi lo : Nat → Nat} {f : sx_H → Prop} (hc : cc c) (hI : h.1 c 0 = nI I) (hA : h.1 c 1 = nI A) (hI' : I ≤ 14) (hN : I + 1 + A ≤ 315) (hr : hlR h c I (I + 1 + A) hi lo) (hm : m < 2 ^ I)
    (H : ∀ h' vl, kp (fun b => b = 11) h h' → (∀ n, n < I + 1 + A → h'.1 11 n = nI (vl n) ∧ vl n < 2) → vE I (I + 1 + A) m hi lo vl → f h') :
    sx_X sx_w 47 0 [some (.ref 10), some (.ref c), some (.int (nI m)), none] [] h (sx_qv f) := by
  obtain ⟨q0, q1, q2, q3, q4, q5, q6, q7, q8, q9, q10⟩ := cc_sh hc
  have hc' := hc
  unfold cc at hc'
  have hp := pw14 hI'
  have nel : ∀ {h0 : sx_H} {j : Nat}, kp (fun b => b = 11) h h0 → h0.1 (c + j) = h.1 (c + j) := fun {h0 j} k => k.i (fun q : c + j = 11 => by omega)
  have nel0 : ∀ {h0 : sx_H}, kp (fun b => b = 11) h h0 → h0.1 c = h.1 c := fun {h0} k => nel (j := 0) k
  have key2 : ∀ (e n : Nat) (vl : Nat → Nat) (h0 : sx_H), n + e = I + 1 + A → I < n → kp (fun b => b = 11) h h0 → (∀ k, k < n → h0.1 11 k = nI (vl k) ∧ vl k < 2) → vE I n m hi lo vl → sx_X sx_w 47 47 [some (.ref 10), some (.ref c), some (.int (nI m)), some (.int (nI n))] [] h0 (sx_qv f) := by
    intro e
    induction e with
    | zero =>
      intro n vl h0 hn hIn k0 hv hE
      refine g_47_47 h0 10 c _ _ ⟨q0, e_nodeCount q0 (by rw [nel0 k0]; exact hI) (by rw [nel0 k0]; exact hA) ?_⟩
      refine pk_le (I + 1 + A) n (fun _ => ?_) (fun z => (by omega))
      rw [show n = I + 1 + A by omega] at hv hE
      exact H h0 vl k0 hv hE
    | succ e ih =>
      intro n vl h0 hn hIn k0 hv hE
      obtain ⟨r1, r2, r3, r4⟩ := hr n hIn (by omega)
      have v1 := hv (hi n / 2) (by omega)
      have v2 := hv (lo n / 2) (by omega)
      refine g_47_47 h0 10 c _ _ ⟨q0, e_nodeCount q0 (by rw [nel0 k0]; exact hI) (by rw [nel0 k0]; exact hA) ?_⟩
      refine pk_le (I + 1 + A) n (fun z => (by omega)) (fun _ => ⟨rfl, q0, e_pick q8 (by decide) ⟨rfl, ?_⟩⟩)
      rw [pk_nI (by omega) (by decide), nel k0, r1]
      refine e_worked rfl (by omega) v1.1 ⟨q0, e_pick q9 (by decide) ⟨rfl, ?_⟩⟩
      rw [pk_nI (by omega) (by decide), nel k0, r2]
      refine e_worked rfl (by omega) v2.1 ?_
      have b1 : lv vl (hi n) < 2 := lv_2 v1.2
      have b2 : lv vl (lo n) < 2 := lv_2 v2.2
      have ea : nI (fl (vl (hi n / 2)) (hi n % 2)) &&& nI (fl (vl (lo n / 2)) (lo n % 2)) = nI (lv vl (hi n) * lv vl (lo n)) := bit_and b1 b2
      rw [ea]
      refine e_store (a := 10 + 1) (n := 315) rfl rfl (by decide) ?_
      rw [st_nI (by omega) (by decide), nI_1]
      have ne : ∀ k, k ≠ n → va_up vl n (lv vl (hi n) * lv vl (lo n)) k = vl k := fun k hk => va_up_ne _ _ hk
      refine ih (n + 1) (va_up vl n (lv vl (hi n) * lv vl (lo n))) _ (by omega) (by omega) (k0.tr (kp_hw (S := fun b => b = 11) rfl)) (fun k hk => ?_) ⟨?_, fun k hk => ?_, fun k a b => ?_⟩
      · show (hw h0 11 _).1 11 k = _ ∧ _
        rw [hw_self]
        by_cases q : k = n
        · rw [q, va_up_self, va_up_self]
          have : lv vl (hi n) * lv vl (lo n) ≤ 1 * 1 := Nat.mul_le_mul (by omega) (by omega)
          exact ⟨rfl, by omega⟩
        · rw [va_up_ne _ _ q, ne k q]; exact hv k (by omega)
      · rw [ne 0 (by omega)]; exact hE.1
      · rw [ne (k + 1) (by omega)]; exact hE.2.1 k hk
      · have hlow : ∀ j, I < j → j < n + 1 → hi j / 2 < j ∧ lo j / 2 < j := fun j a b => (hr j a (by omega)).2.2
        obtain ⟨l1, l2⟩ := hlow k a b
        have e1 : lv (va_up vl n (lv vl (hi n) * lv vl (lo n))) (hi k) = lv vl (hi k) := by unfold lv; rw [ne _ (by omega)]
        have e2 : lv (va_up vl n (lv vl (hi n) * lv vl (lo n))) (lo k) = lv vl (lo k) := by unfold lv; rw [ne _ (by omega)]
        rw [e1, e2]
        by_cases q : k = n
        · rw [q, va_up_self]
        · rw [ne k q]; exact hE.2.2 k a (by omega)
  have key1 : ∀ (e k : Nat) (vl : Nat → Nat) (h0 : sx_H), k + e = I → kp (fun b => b = 11) h h0 → (∀ j, j < k + 1 → h0.1 11 j = nI (vl j) ∧ vl j < 2) → vl 0 = 0 → (∀ j, j < k → vl (j + 1) = m / 2 ^ j % 2) → sx_X sx_w 47 11 [some (.ref 10), some (.ref c), some (.int (nI m)), some (.int (nI k))] [] h0 (sx_qv f) := by
    intro e
    induction e with
    | zero =>
      intro k vl h0 hk k0 hv h00 hv2
      refine g_47_11 h0 10 c _ _ ⟨q0, ?_⟩
      rw [nel0 k0, hI]
      refine pk_le I k (fun _ => ⟨q0, ?_⟩) (fun z => (by omega))
      rw [nI_1]
      rw [show k = I by omega] at hv hv2
      exact key2 A (I + 1) vl h0 rfl (by omega) k0 hv ⟨h00, hv2, fun n a b => (by omega)⟩
    | succ e ih =>
      intro k vl h0 hk k0 hv h00 hv2
      refine g_47_11 h0 10 c _ _ ⟨q0, ?_⟩
      rw [nel0 k0, hI]
      refine pk_le I k (fun z => (by omega)) (fun _ => ⟨rfl, ?_⟩)
      have eb : nI m >>> (nI k &&& 31) &&& 1 = nI (m / 2 ^ k % 2) := by
        rw [pk_shrN (by omega) (nI k &&& 31) k (smd (by omega)), an_1 (Nat.lt_of_le_of_lt (Nat.div_le_self _ _) (by omega))]
      rw [eb]
      refine e_store (a := 10 + 1) (n := 315) rfl rfl (by decide) ?_
      rw [nI_1, st_nI (by omega) (by decide)]
      refine ih (k + 1) (va_up vl (k + 1) (m / 2 ^ k % 2)) _ (by omega) (k0.tr (kp_hw (S := fun b => b = 11) rfl)) (fun j hj => ?_) ?_ (fun j hj => ?_)
      · show (hw h0 11 _).1 11 j = _ ∧ _
        rw [hw_self]
        by_cases q : j = k + 1
        · rw [q, va_up_self, va_up_self]
          exact ⟨rfl, Nat.mod_lt _ (by decide)⟩
        · rw [va_up_ne _ _ q, va_up_ne _ _ q]; exact hv j (by omega)
      · rw [va_up_ne _ _ (by omega)]; exact h00
      · by_cases q : j = k
        · rw [q, va_up_self]
        · rw [va_up_ne _ _ (by omega)]; exact hv2 j (by omega)
  refine g_47_0 h 10 c _ ⟨rfl, e_store (a := 10 + 1) (n := 315) rfl rfl (by decide) ?_⟩
  rw [show st (h.1 (10 + 1)) 315 0 0 = va_up (h.1 11) 0 0 from st_nI (k := 0) (by decide) (by decide)]
  refine key1 I 0 (fun _ => 0) _ (by omega) (kp_hw (S := fun b => b = 11) rfl) (fun j hj => ?_) rfl (fun j hj => absurd hj (Nat.not_lt_zero _))
  show (hw h 11 _).1 11 j = _ ∧ _
  rw [hw_self, show j = 0 by omega, va_up_self]
  exact ⟨rfl, by decide⟩
/-- the nodes that are marked from seeds on: a node above I marks two others -/
def cn (I N : Nat) (sd : Nat → Prop) (a1 a2 : Nat → Nat) (k : Nat) : Prop := ∀ P : Nat → Prop, (∀ s, sd s → P s) → (∀ n, P n → I < n → n < N → P (a1 n) ∧ P (a2 n)) → P k
theorem e_mark {h : sx_H} {x : Nat} {f : sx_H → Prop} (hx : x / 2 < 315) (H : f (hw h 12 (va_up (h.1 12) (x / 2) 1))) : sx_X sx_w 52 0 [some (.ref 10), some (.int (nI x))] [] h (sx_qv f) := by
  refine g_52_0 h 10 _ ⟨rfl, e_store (a := 10 + 2) (n := 315) rfl rfl (by decide) ?_⟩
  rw [sh_half (by omega), st_nI hx (by decide)]
  exact H
theorem e_isMarked {sh : sx_S} {h : sx_H} {n : Nat} {f : Int32 → sx_H → Prop} (hs : sh.1 = sx_shp) (hn : n < 315) (H1 : h.1 12 n = 1 → f 1 h) (H0 : ¬ h.1 12 n = 1 → f 0 h) : sx_X sh 53 0 [some (.ref 10), some (.int (nI n))] [] h (sx_qi f) := by
  refine g_53_0 h 10 _ ⟨by rw [hs]; rfl, e_pick (a := 10 + 2) (n := 315) (by rw [hs]; rfl) (by decide) ?_⟩
  rw [pk_nI hn (by decide)]
  exact ⟨fun z => ⟨Or.inl rfl, H0 z⟩, fun z => ⟨Or.inr rfl, H1 z⟩⟩
def fw (w : Bool) (fo : Nat → Nat) (x : Nat) : Nat := cond w (fl (fo (x / 2)) (x % 2)) x
theorem fw_le {w : Bool} {fo : Nat → Nat} {x : Nat} (h : fo (x / 2) ≤ 2 * (x / 2)) : fw w fo x / 2 ≤ x / 2 := by
  cases w
  · exact Nat.le_refl _
  · unfold fw fl
    simp only [cond_true]
    omega
theorem e_foldIf {sh : sx_S} {h : sx_H} {c x : Nat} {w : Bool} {fo : Nat → Nat} {f : Int32 → sx_H → Prop} (hk : (sh.1 c).1 = 5) (hs : sh.1 (c + 10) = (1, 315)) (hx : x / 2 < 315) (hv : h.1 (c + 10) (x / 2) = nI (fo (x / 2))) (H : f (nI (fw w fo x)) h) :
    sx_X sh 20 0 [some (.ref c), some (.int (if w then 1 else 0)), some (.int (nI x))] [] h (sx_qi f) := by
  cases w
  · exact g_20_0 h c _ _ ⟨fun _ => H, fun z => absurd rfl z⟩
  · exact g_20_0 h c _ _ ⟨fun z => absurd z (by decide), fun _ => ⟨hk, e_foldOf hk hs hx hv H⟩⟩
theorem rg_cons (n k : Nat) : List.range' n (k + 1) = n :: List.range' (n + 1) k := rfl
theorem cnP_cg {α : Type} {P Q : α → Prop} : ∀ {l : List α}, (∀ a ∈ l, P a ↔ Q a) → cnP P l = cnP Q l := fun {l} h => Nat.le_antisymm (cnP_le (fun a ha => (h a ha).mp)) (cnP_le (fun a ha => (h a ha).mpr))
theorem cnP_len {α : Type} {P : α → Prop} : ∀ (l : List α), cnP P l ≤ l.length
  | [] => Nat.le_refl _
  | a :: l => by
    have := cnP_len (P := P) l
    by_cases q : P a
    · rw [cnP_y q, List.length_cons]; omega
    · rw [cnP_n q, List.length_cons]; omega
theorem e_markNeeds {h : sx_H} {c I A : Nat} {w : Bool} {hi lo fo : Nat → Nat} {sd : Nat → Prop} {f : Int32 → sx_H → Prop} (hc : cc c) (hI : h.1 c 0 = nI I) (hA : h.1 c 1 = nI A) (hN : I + 1 + A ≤ 315) (hr : hlR h c I (I + 1 + A) hi lo) (hf : foR h c (I + 1 + A) fo) (h0 : ∀ k, k < 315 → (h.1 12 k = 1 ↔ sd k))
    (H : ∀ h', kp (fun b => b = 12) h h' → (∀ k, k < I + 1 + A → (h'.1 12 k = 1 ↔ cn I (I + 1 + A) sd (fun n => fw w fo (hi n) / 2) (fun n => fw w fo (lo n) / 2) k)) → f (nI (cnP (cn I (I + 1 + A) sd (fun n => fw w fo (hi n) / 2) (fun n => fw w fo (lo n) / 2)) (List.range' (I + 1) A))) h') :
    sx_X sx_w 51 0 [some (.ref 10), some (.ref c), some (.int (if w then 1 else 0)), none, none] [] h (sx_qi f) := by
  obtain ⟨q0, q1, q2, q3, q4, q5, q6, q7, q8, q9, q10⟩ := cc_sh hc
  have hc' := hc
  unfold cc at hc'
  have nel : ∀ {h0 : sx_H} {j : Nat}, kp (fun b => b = 12) h h0 → h0.1 (c + j) = h.1 (c + j) := fun {h0 j} k => k.i (fun q : c + j = 12 => by omega)
  have nel0 : ∀ {h0 : sx_H}, kp (fun b => b = 12) h h0 → h0.1 c = h.1 c := fun {h0} k => nel (j := 0) k
  generalize eC : cn I (I + 1 + A) sd (fun n => fw w fo (hi n) / 2) (fun n => fw w fo (lo n) / 2) = C at H
  have Cs : ∀ s, sd s → C s := fun s hs => by rw [← eC]; exact fun P a b => a s hs
  have Cc : ∀ n, C n → I < n → n < I + 1 + A → C (fw w fo (hi n) / 2) ∧ C (fw w fo (lo n) / 2) := fun n hn x y => by
    rw [← eC] at hn ⊢
    exact ⟨fun P a b => (b n (hn P a b) x y).1, fun P a b => (b n (hn P a b) x y).2⟩
  have Cl : ∀ (P : Nat → Prop), (∀ s, sd s → P s) → (∀ n, P n → I < n → n < I + 1 + A → P (fw w fo (hi n) / 2) ∧ P (fw w fo (lo n) / 2)) → ∀ k, C k → P k := fun P a b k hk => by
    rw [← eC] at hk
    exact hk P a b
  have key : ∀ (e n : Nat) (h0 : sx_H), n = I + e → n < I + 1 + A → kp (fun b => b = 12) h h0 → (∀ k, k < 315 → h0.1 12 k = 1 → C k) → (∀ k, k < 315 → sd k → h0.1 12 k = 1) → (∀ m, n < m → m < I + 1 + A → h0.1 12 m = 1 → h0.1 12 (fw w fo (hi m) / 2) = 1 ∧ h0.1 12 (fw w fo (lo m) / 2) = 1) →
      sx_X sx_w 51 10 [some (.ref 10), some (.ref c), some (.int (if w then 1 else 0)), some (.int (nI (cnP (fun m => h0.1 12 m = 1) (List.range' (n + 1) (I + A - n))))), some (.int (nI n))] [] h0 (sx_qi f) := by
    intro e
    induction e with
    | zero =>
      intro n h0 hn hnN k0 s1 s2 s3
      refine g_51_10 h0 10 c _ _ _ ⟨q0, ?_⟩
      rw [nel0 k0, hI]
      refine pk_le n I (fun _ => ?_) (fun z => (by omega))
      have en : n = I := hn
      subst en
      have iff : ∀ k, k < n + 1 + A → (h0.1 12 k = 1 ↔ C k) := fun k hk => by
        refine ⟨fun z => s1 k (by omega) z, fun z => ?_⟩
        have := Cl (fun k => k < n + 1 + A → h0.1 12 k = 1) (fun s hs hs' => s2 s (by omega) hs) (fun m pm a b => ?_) k z
        · exact this hk
        · obtain ⟨x1, x2⟩ := s3 m a b (pm b)
          exact ⟨fun _ => x1, fun _ => x2⟩
      have ec : cnP (fun m => h0.1 12 m = 1) (List.range' (n + 1) (n + A - n)) = cnP C (List.range' (n + 1) A) := by
        rw [show n + A - n = A by omega]
        exact cnP_cg (fun a ha => iff a (by have := List.mem_range'_1.mp ha; omega))
      have := H h0 k0 iff
      rw [← ec] at this
      exact this
    | succ e ih =>
      intro n h0 hn hnN k0 s1 s2 s3
      obtain ⟨r1, r2, r3, r4⟩ := hr n (by omega) hnN
      have f1 := hf (hi n / 2) (by omega)
      have f2 := hf (lo n / 2) (by omega)
      have l1 : fw w fo (hi n) / 2 ≤ hi n / 2 := fw_le f1.2
      have l2 : fw w fo (lo n) / 2 ≤ lo n / 2 := fw_le f2.2
      have hbd := cnP_len (P := fun m => h0.1 12 m = 1) (List.range' (n + 1) (I + A - n))
      rw [List.length_range'] at hbd
      have em1 : nI n + (-1) = nI (n - 1) := by
        have := pk_m1 (n - 1)
        rw [show n - 1 + 1 = n by omega] at this
        exact this
      refine g_51_10 h0 10 c _ _ _ ⟨q0, ?_⟩
      rw [nel0 k0, hI]
      refine pk_le n I (fun z => (by omega)) (fun _ => ⟨rfl, e_isMarked rfl (by omega) (fun hm => ⟨fun y => absurd y (by decide), fun _ => ?_⟩) (fun hm => ⟨fun _ => ?_, fun y => absurd rfl y⟩)⟩)
      · refine ⟨q0, e_pick q8 (by decide) ⟨q0, ?_⟩⟩
        rw [pk_nI (by omega) (by decide), nel k0, r1]
        refine e_foldIf q0 q10 (by omega) (by rw [nel k0]; exact f1.1) ⟨rfl, e_mark (by omega) ?_⟩
        generalize e1 : hw h0 12 (va_up (h0.1 12) (fw w fo (hi n) / 2) 1) = h1
        have x12 : h1.1 12 = va_up (h0.1 12) (fw w fo (hi n) / 2) 1 := by rw [← e1, hw_self]
        have k1 : kp (fun b => b = 12) h h1 := by rw [← e1]; exact k0.tr (kp_hw (S := fun b => b = 12) rfl)
        refine ⟨q0, e_pick q9 (by decide) ⟨q0, ?_⟩⟩
        rw [pk_nI (by omega) (by decide), nel k1, r2]
        refine e_foldIf q0 q10 (by omega) (by rw [nel k1]; exact f2.1) ⟨rfl, e_mark (by omega) ?_⟩
        generalize e2 : hw h1 12 (va_up (h1.1 12) (fw w fo (lo n) / 2) 1) = h2
        have y12 : h2.1 12 = va_up (va_up (h0.1 12) (fw w fo (hi n) / 2) 1) (fw w fo (lo n) / 2) 1 := by rw [← e2, hw_self, x12]
        have k2 : kp (fun b => b = 12) h h2 := by rw [← e2]; exact k1.tr (kp_hw (S := fun b => b = 12) rfl)
        have hC := Cc n (s1 n (by omega) hm) (by omega) hnN
        have up : ∀ k, h0.1 12 k = 1 → h2.1 12 k = 1 := fun k hk => by
          rw [y12]
          by_cases z2 : k = fw w fo (lo n) / 2
          · rw [z2, va_up_self]
          · rw [va_up_ne _ _ z2]
            by_cases z1 : k = fw w fo (hi n) / 2
            · rw [z1, va_up_self]
            · rw [va_up_ne _ _ z1]; exact hk
        have same : ∀ k, n ≤ k → h2.1 12 k = h0.1 12 k := fun k hk => by
          rw [y12, va_up_ne _ _ (by omega), va_up_ne _ _ (by omega)]
        have ec : nI (cnP (fun m => h0.1 12 m = 1) (List.range' (n + 1) (I + A - n))) + 1 = nI (cnP (fun m => h2.1 12 m = 1) (List.range' (n - 1 + 1) (I + A - (n - 1)))) := by
          rw [nI_1, show n - 1 + 1 = n by omega, show I + A - (n - 1) = (I + A - n) + 1 by omega, rg_cons, cnP_y (P := fun m => h2.1 12 m = 1) (a := n) (show h2.1 12 n = 1 by rw [same n (Nat.le_refl _)]; exact hm), Nat.add_comm]
          congr 2
          exact cnP_cg (fun a ha => by rw [same a (by have := List.mem_range'_1.mp ha; omega)])
        rw [ec, em1]
        refine ih (n - 1) h2 (by omega) (by omega) k2 (fun k hk hk1 => ?_) (fun k hk hs => up k (s2 k hk hs)) (fun m a b hm1 => ?_)
        · by_cases z2 : k = fw w fo (lo n) / 2
          · rw [z2]; exact hC.2
          · by_cases z1 : k = fw w fo (hi n) / 2
            · rw [z1]; exact hC.1
            · rw [y12, va_up_ne _ _ z2, va_up_ne _ _ z1] at hk1
              exact s1 k hk hk1
        · by_cases z : m = n
          · subst z
            refine ⟨?_, by rw [y12, va_up_self]⟩
            rw [y12]
            by_cases z2 : fw w fo (hi m) / 2 = fw w fo (lo m) / 2
            · rw [z2, va_up_self]
            · rw [va_up_ne _ _ z2, va_up_self]
          · rw [same m (by omega)] at hm1
            obtain ⟨x1, x2⟩ := s3 m (by omega) b hm1
            exact ⟨up _ x1, up _ x2⟩
      · have ec : cnP (fun m => h0.1 12 m = 1) (List.range' (n + 1) (I + A - n)) = cnP (fun m => h0.1 12 m = 1) (List.range' (n - 1 + 1) (I + A - (n - 1))) := by
          rw [show n - 1 + 1 = n by omega, show I + A - (n - 1) = (I + A - n) + 1 by omega, rg_cons, cnP_n (P := fun m => h0.1 12 m = 1) (a := n) hm]
        rw [ec, em1]
        refine ih (n - 1) h0 (by omega) (by omega) k0 s1 s2 (fun m a b hm1 => ?_)
        by_cases z : m = n
        · rw [z] at hm1; exact absurd hm1 hm
        · exact s3 m (by omega) b hm1
  refine g_51_0 h 10 c _ ⟨q0, e_nodeCount q0 hI hA ?_⟩
  have em1 : nI (I + 1 + A) - 1 = nI (I + A) := by rw [show I + 1 + A = I + A + 1 by omega, nI_pred]
  rw [em1]
  have := key A (I + A) h rfl (by omega) kp.rf (fun k hk z => Cs k ((h0 k hk).mp z)) (fun k hk z => (h0 k hk).mpr z) (fun m a b => (by omega))
  rw [show I + A - (I + A) = 0 by omega] at this
  exact this
