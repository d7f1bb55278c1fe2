-- THE SMALL MACHINE (sx_): what the bytecode of a method does to locals, stack and a heap of plain functions.
-- A heap: ints, longs and references by address and place. Addresses are names 0, 1, ..; r says where each lies in the JVM's heap.
abbrev sx_H : Type := (Nat → Nat → Int32) × (Nat → Nat → Int64) × (Nat → Nat → Nat)
abbrev sx_L : Type := List (Option Value)
abbrev sx_Q : Type := Option Value → sx_H → Prop
/-- the shape of a cell: (0, _) none, (1, n) int[n], (2, n) long[n], (3, n) boolean[n], (ci + 4, _) an object of class number ci -/
abbrev sx_S : Type := (Nat → Nat × Nat) × Bool
def sx_v (r : Nat → Nat) : Value → Value
  | .ref a => .ref (r a)
  | v => v
def sx_u {α : Type} (f : Nat → Nat → α) (a k : Nat) (v : α) : Nat → Nat → α := va_up f a (va_up (f a) k v)
def sx_kill (l : sx_L) : Nat → sx_L
  | 0 => l
  | i + 1 => match l[i]? with
    | some (some (.long _)) => l.set i none
    | some (some (.double _)) => l.set i none
    | _ => l
def sx_s1 (l : sx_L) (i : Nat) (v : Value) : sx_L := (sx_kill l i).set i (some v)
def sx_s2 (l : sx_L) (i : Nat) (v : Value) : sx_L := ((sx_kill l i).set i (some v)).set (i + 1) none
def sx_a1 : Value → sx_L
  | .long x => [some (.long x), none]
  | .double x => [some (.double x), none]
  | v => [some v]
def sx_fill (n : Nat) (a : sx_L) : sx_L := a ++ List.replicate (n - a.length) none
def sx_entry (n : Nat) (vs : List Value) : sx_L := sx_fill n (vs.flatMap sx_a1)
-- what stands on the stack, or in a local
def sx_i1 (st : List Value) (f : Int32 → List Value → Prop) : Prop := match st with
  | .int x :: t => f x t
  | _ => False
def sx_i2 (st : List Value) (f : Int32 → Int32 → List Value → Prop) : Prop := match st with
  | .int y :: .int x :: t => f x y t
  | _ => False
def sx_l1 (st : List Value) (f : Int64 → List Value → Prop) : Prop := match st with
  | .long x :: t => f x t
  | _ => False
def sx_l2 (st : List Value) (f : Int64 → Int64 → List Value → Prop) : Prop := match st with
  | .long y :: .long x :: t => f x y t
  | _ => False
def sx_li (st : List Value) (f : Int64 → Int32 → List Value → Prop) : Prop := match st with
  | .int y :: .long x :: t => f x y t
  | _ => False
def sx_r1 (st : List Value) (f : Nat → List Value → Prop) : Prop := match st with
  | .ref a :: t => f a t
  | _ => False
def sx_ir (st : List Value) (f : Int32 → Nat → List Value → Prop) : Prop := match st with
  | .int x :: .ref a :: t => f x a t
  | _ => False
def sx_lr' (st : List Value) (f : Int64 → Nat → List Value → Prop) : Prop := match st with
  | .long x :: .ref a :: t => f x a t
  | _ => False
def sx_rr (st : List Value) (f : Nat → Nat → List Value → Prop) : Prop := match st with
  | .ref x :: .ref a :: t => f x a t
  | _ => False
def sx_iir (st : List Value) (f : Int32 → Int32 → Nat → List Value → Prop) : Prop := match st with
  | .int x :: .int i :: .ref a :: t => f x i a t
  | _ => False
def sx_lir (st : List Value) (f : Int64 → Int32 → Nat → List Value → Prop) : Prop := match st with
  | .long x :: .int i :: .ref a :: t => f x i a t
  | _ => False
def sx_gi (l : sx_L) (i : Nat) (f : Int32 → Prop) : Prop := match l[i]? with
  | some (some (.int x)) => f x
  | _ => False
def sx_gl (l : sx_L) (i : Nat) (f : Int64 → Prop) : Prop := match l[i]? with
  | some (some (.long x)) => f x
  | _ => False
def sx_ga (l : sx_L) (i : Nat) (f : Nat → Prop) : Prop := match l[i]? with
  | some (some (.ref x)) => f x
  | _ => False
theorem sx_i1_e {st : List Value} {f : Int32 → List Value → Prop} (h : sx_i1 st f) : ∃ x t, st = .int x :: t ∧ f x t := by
  unfold sx_i1 at h; split at h
  · exact ⟨_, _, rfl, h⟩
  · exact h.elim
theorem sx_i2_e {st : List Value} {f : Int32 → Int32 → List Value → Prop} (h : sx_i2 st f) : ∃ x y t, st = .int y :: .int x :: t ∧ f x y t := by
  unfold sx_i2 at h; split at h
  · exact ⟨_, _, _, rfl, h⟩
  · exact h.elim
theorem sx_l1_e {st : List Value} {f : Int64 → List Value → Prop} (h : sx_l1 st f) : ∃ x t, st = .long x :: t ∧ f x t := by
  unfold sx_l1 at h; split at h
  · exact ⟨_, _, rfl, h⟩
  · exact h.elim
theorem sx_l2_e {st : List Value} {f : Int64 → Int64 → List Value → Prop} (h : sx_l2 st f) : ∃ x y t, st = .long y :: .long x :: t ∧ f x y t := by
  unfold sx_l2 at h; split at h
  · exact ⟨_, _, _, rfl, h⟩
  · exact h.elim
theorem sx_li_e {st : List Value} {f : Int64 → Int32 → List Value → Prop} (h : sx_li st f) : ∃ x y t, st = .int y :: .long x :: t ∧ f x y t := by
  unfold sx_li at h; split at h
  · exact ⟨_, _, _, rfl, h⟩
  · exact h.elim
theorem sx_r1_e {st : List Value} {f : Nat → List Value → Prop} (h : sx_r1 st f) : ∃ a t, st = .ref a :: t ∧ f a t := by
  unfold sx_r1 at h; split at h
  · exact ⟨_, _, rfl, h⟩
  · exact h.elim
theorem sx_ir_e {st : List Value} {f : Int32 → Nat → List Value → Prop} (h : sx_ir st f) : ∃ x a t, st = .int x :: .ref a :: t ∧ f x a t := by
  unfold sx_ir at h; split at h
  · exact ⟨_, _, _, rfl, h⟩
  · exact h.elim
theorem sx_lr'_e {st : List Value} {f : Int64 → Nat → List Value → Prop} (h : sx_lr' st f) : ∃ x a t, st = .long x :: .ref a :: t ∧ f x a t := by
  unfold sx_lr' at h; split at h
  · exact ⟨_, _, _, rfl, h⟩
  · exact h.elim
theorem sx_rr_e {st : List Value} {f : Nat → Nat → List Value → Prop} (h : sx_rr st f) : ∃ x a t, st = .ref x :: .ref a :: t ∧ f x a t := by
  unfold sx_rr at h; split at h
  · exact ⟨_, _, _, rfl, h⟩
  · exact h.elim
theorem sx_iir_e {st : List Value} {f : Int32 → Int32 → Nat → List Value → Prop} (h : sx_iir st f) : ∃ x i a t, st = .int x :: .int i :: .ref a :: t ∧ f x i a t := by
  unfold sx_iir at h; split at h
  · exact ⟨_, _, _, _, rfl, h⟩
  · exact h.elim
theorem sx_lir_e {st : List Value} {f : Int64 → Int32 → Nat → List Value → Prop} (h : sx_lir st f) : ∃ x i a t, st = .long x :: .int i :: .ref a :: t ∧ f x i a t := by
  unfold sx_lir at h; split at h
  · exact ⟨_, _, _, _, rfl, h⟩
  · exact h.elim
theorem sx_gi_e {l : sx_L} {i : Nat} {f : Int32 → Prop} (h : sx_gi l i f) : ∃ x, l[i]? = some (some (.int x)) ∧ f x := by
  unfold sx_gi at h; split at h
  · exact ⟨_, by assumption, h⟩
  · exact h.elim
theorem sx_gl_e {l : sx_L} {i : Nat} {f : Int64 → Prop} (h : sx_gl l i f) : ∃ x, l[i]? = some (some (.long x)) ∧ f x := by
  unfold sx_gl at h; split at h
  · exact ⟨_, by assumption, h⟩
  · exact h.elim
theorem sx_ga_e {l : sx_L} {i : Nat} {f : Nat → Prop} (h : sx_ga l i f) : ∃ x, l[i]? = some (some (.ref x)) ∧ f x := by
  unfold sx_ga at h; split at h
  · exact ⟨_, by assumption, h⟩
  · exact h.elim
theorem sx_i1_m {st : List Value} {f g : Int32 → List Value → Prop} (m : ∀ x t, f x t → g x t) (h : sx_i1 st f) : sx_i1 st g := by
  obtain ⟨x, t, rfl, h⟩ := sx_i1_e h; exact m _ _ h
theorem sx_i2_m {st : List Value} {f g : Int32 → Int32 → List Value → Prop} (m : ∀ x y t, f x y t → g x y t) (h : sx_i2 st f) : sx_i2 st g := by
  obtain ⟨x, y, t, rfl, h⟩ := sx_i2_e h; exact m _ _ _ h
theorem sx_l1_m {st : List Value} {f g : Int64 → List Value → Prop} (m : ∀ x t, f x t → g x t) (h : sx_l1 st f) : sx_l1 st g := by
  obtain ⟨x, t, rfl, h⟩ := sx_l1_e h; exact m _ _ h
theorem sx_l2_m {st : List Value} {f g : Int64 → Int64 → List Value → Prop} (m : ∀ x y t, f x y t → g x y t) (h : sx_l2 st f) : sx_l2 st g := by
  obtain ⟨x, y, t, rfl, h⟩ := sx_l2_e h; exact m _ _ _ h
theorem sx_li_m {st : List Value} {f g : Int64 → Int32 → List Value → Prop} (m : ∀ x y t, f x y t → g x y t) (h : sx_li st f) : sx_li st g := by
  obtain ⟨x, y, t, rfl, h⟩ := sx_li_e h; exact m _ _ _ h
theorem sx_r1_m {st : List Value} {f g : Nat → List Value → Prop} (m : ∀ x t, f x t → g x t) (h : sx_r1 st f) : sx_r1 st g := by
  obtain ⟨x, t, rfl, h⟩ := sx_r1_e h; exact m _ _ h
theorem sx_ir_m {st : List Value} {f g : Int32 → Nat → List Value → Prop} (m : ∀ x a t, f x a t → g x a t) (h : sx_ir st f) : sx_ir st g := by
  obtain ⟨x, a, t, rfl, h⟩ := sx_ir_e h; exact m _ _ _ h
theorem sx_lr'_m {st : List Value} {f g : Int64 → Nat → List Value → Prop} (m : ∀ x a t, f x a t → g x a t) (h : sx_lr' st f) : sx_lr' st g := by
  obtain ⟨x, a, t, rfl, h⟩ := sx_lr'_e h; exact m _ _ _ h
theorem sx_rr_m {st : List Value} {f g : Nat → Nat → List Value → Prop} (m : ∀ x a t, f x a t → g x a t) (h : sx_rr st f) : sx_rr st g := by
  obtain ⟨x, a, t, rfl, h⟩ := sx_rr_e h; exact m _ _ _ h
theorem sx_iir_m {st : List Value} {f g : Int32 → Int32 → Nat → List Value → Prop} (m : ∀ x i a t, f x i a t → g x i a t) (h : sx_iir st f) : sx_iir st g := by
  obtain ⟨x, i, a, t, rfl, h⟩ := sx_iir_e h; exact m _ _ _ _ h
theorem sx_lir_m {st : List Value} {f g : Int64 → Int32 → Nat → List Value → Prop} (m : ∀ x i a t, f x i a t → g x i a t) (h : sx_lir st f) : sx_lir st g := by
  obtain ⟨x, i, a, t, rfl, h⟩ := sx_lir_e h; exact m _ _ _ _ h
theorem sx_gi_m {l : sx_L} {i : Nat} {f g : Int32 → Prop} (m : ∀ x, f x → g x) (h : sx_gi l i f) : sx_gi l i g := by
  obtain ⟨x, e, h⟩ := sx_gi_e h; unfold sx_gi; rw [e]; exact m _ h
theorem sx_gl_m {l : sx_L} {i : Nat} {f g : Int64 → Prop} (m : ∀ x, f x → g x) (h : sx_gl l i f) : sx_gl l i g := by
  obtain ⟨x, e, h⟩ := sx_gl_e h; unfold sx_gl; rw [e]; exact m _ h
theorem sx_ga_m {l : sx_L} {i : Nat} {f g : Nat → Prop} (m : ∀ x, f x → g x) (h : sx_ga l i f) : sx_ga l i g := by
  obtain ⟨x, e, h⟩ := sx_ga_e h; unfold sx_ga; rw [e]; exact m _ h
def sx_jmp (pc : Nat) (off : Int) (f : Nat → Prop) : Prop := match (pc : Int) + off with
  | .ofNat t => f t
  | .negSucc _ => False
theorem sx_jmp_e {pc : Nat} {off : Int} {f : Nat → Prop} (h : sx_jmp pc off f) : ∃ t : Nat, (pc : Int) + off = (t : Int) ∧ f t := by
  unfold sx_jmp at h; split at h
  · exact ⟨_, by assumption, h⟩
  · exact h.elim
theorem sx_jmp_m {pc : Nat} {off : Int} {f g : Nat → Prop} (m : ∀ t, f t → g t) (h : sx_jmp pc off f) : sx_jmp pc off g := by
  unfold sx_jmp at h ⊢; split at h
  · exact m _ h
  · exact h.elim
def sx_sw (x : Int32) (pc : Nat) (dflt : Int) (f : Nat → Prop) : List (Int × Int) → Prop
  | [] => sx_jmp pc dflt f
  | (a, off) :: r => (x = Int32.ofInt a → sx_jmp pc off f) ∧ (¬ x = Int32.ofInt a → sx_sw x pc dflt f r)
theorem sx_sw_m {x : Int32} {pc : Nat} {dflt : Int} {f g : Nat → Prop} (m : ∀ t, f t → g t) : ∀ {r : List (Int × Int)}, sx_sw x pc dflt f r → sx_sw x pc dflt g r
  | [], h => sx_jmp_m m h
  | (_, _) :: _, h => ⟨fun c => sx_jmp_m m (h.1 c), fun c => sx_sw_m m (h.2 c)⟩
def sx_c1 (c : ClassFile.Cond) (x : Int32) (A B : Prop) : Prop := match c with
  | .eq => (x = 0 → A) ∧ (¬ x = 0 → B)
  | .ne => (¬ x = 0 → A) ∧ (x = 0 → B)
  | .lt => (x < 0 → A) ∧ (¬ x < 0 → B)
  | .ge => (0 ≤ x → A) ∧ (¬ 0 ≤ x → B)
  | .gt => (0 < x → A) ∧ (¬ 0 < x → B)
  | .le => (x ≤ 0 → A) ∧ (¬ x ≤ 0 → B)
def sx_c2 (c : ClassFile.Cond) (x y : Int32) (A B : Prop) : Prop := match c with
  | .eq => (x = y → A) ∧ (¬ x = y → B)
  | .ne => (¬ x = y → A) ∧ (x = y → B)
  | .lt => (x < y → A) ∧ (¬ x < y → B)
  | .ge => (y ≤ x → A) ∧ (¬ y ≤ x → B)
  | .gt => (y < x → A) ∧ (¬ y < x → B)
  | .le => (x ≤ y → A) ∧ (¬ x ≤ y → B)
theorem sx_c1_m {c : ClassFile.Cond} {x : Int32} {A B A' B' : Prop} (a : A → A') (b : B → B') (h : sx_c1 c x A B) : sx_c1 c x A' B' := by
  cases c <;> exact ⟨fun z => a (h.1 z), fun z => b (h.2 z)⟩
theorem sx_c2_m {c : ClassFile.Cond} {x y : Int32} {A B A' B' : Prop} (a : A → A') (b : B → B') (h : sx_c2 c x y A B) : sx_c2 c x y A' B' := by
  cases c <;> exact ⟨fun z => a (h.1 z), fun z => b (h.2 z)⟩
def sx_qi (f : Int32 → sx_H → Prop) : sx_Q := fun w h => match w with
  | some (.int x) => f x h
  | _ => False
def sx_ql (f : Int64 → sx_H → Prop) : sx_Q := fun w h => match w with
  | some (.long x) => f x h
  | _ => False
def sx_qr (f : Nat → sx_H → Prop) : sx_Q := fun w h => match w with
  | some (.ref x) => f x h
  | _ => False
def sx_qv (f : sx_H → Prop) : sx_Q := fun w h => match w with
  | none => f h
  | _ => False
theorem sx_qi_m {f g : Int32 → sx_H → Prop} (m : ∀ x h, f x h → g x h) (w : Option Value) (h : sx_H) (q : sx_qi f w h) : sx_qi g w h := by
  unfold sx_qi at q ⊢; split at q
  · exact m _ _ q
  · exact q.elim
theorem sx_ql_m {f g : Int64 → sx_H → Prop} (m : ∀ x h, f x h → g x h) (w : Option Value) (h : sx_H) (q : sx_ql f w h) : sx_ql g w h := by
  unfold sx_ql at q ⊢; split at q
  · exact m _ _ q
  · exact q.elim
theorem sx_qr_m {f g : Nat → sx_H → Prop} (m : ∀ x h, f x h → g x h) (w : Option Value) (h : sx_H) (q : sx_qr f w h) : sx_qr g w h := by
  unfold sx_qr at q ⊢; split at q
  · exact m _ _ q
  · exact q.elim
theorem sx_qv_m {f g : sx_H → Prop} (m : ∀ h, f h → g h) (w : Option Value) (h : sx_H) (q : sx_qv f w h) : sx_qv g w h := by
  unfold sx_qv at q ⊢; split at q
  · exact m _ q
  · exact q.elim
def sx_pop : Nat → List Value → List Value → Option (List Value × List Value)
  | 0, acc, st => some (acc, st)
  | n + 1, acc, v :: st => sx_pop n (v :: acc) st
  | _ + 1, _, [] => none
theorem sx_pop_e : ∀ {n : Nat} {acc st as t : List Value}, sx_pop n acc st = some (as, t) → ∃ b, as = b.reverse ++ acc ∧ st = b ++ t ∧ b.length = n
  | 0, acc, st, as, t, h => by cases h; exact ⟨[], rfl, rfl, rfl⟩
  | n + 1, acc, v :: st, as, t, h => by
    obtain ⟨b, h1, h2, h3⟩ := sx_pop_e (n := n) h
    exact ⟨v :: b, by rw [h1]; simp, by rw [h2]; rfl, by rw [List.length_cons, h3]⟩
  | _ + 1, _, [], _, _, h => by cases h
def sx_cat : List Value → Nat
  | [] => 0
  | v :: t => v.category + sx_cat t
theorem sx_cat_e (r : Nat → Nat) : ∀ t : List Value, ((t.map (sx_v r)).map fun v => v.category).sum = sx_cat t
  | [] => rfl
  | v :: t => by
    have h : (sx_v r v).category = v.category := by cases v <;> rfl
    simp only [List.map_cons, List.sum_cons, h, sx_cat, sx_cat_e r t]
def sx_post (rt : Option FieldType) (t : List Value) (f : List Value → sx_H → Prop) : sx_Q := match rt with
  | none => sx_qv (fun h => f t h)
  | some .int => sx_qi (fun x h => f (.int x :: t) h)
  | some .boolean => sx_qi (fun x h => f (.int x :: t) h)
  | some .long => sx_ql (fun x h => f (.long x :: t) h)
  | some (.object _) => sx_qr (fun a h => f (.ref a :: t) h)
  | some (.array _) => sx_qr (fun a h => f (.ref a :: t) h)
  | _ => fun _ _ => False
theorem sx_post_m {rt : Option FieldType} {t : List Value} {f g : List Value → sx_H → Prop} (m : ∀ s h, f s h → g s h) (w : Option Value) (h : sx_H) (q : sx_post rt t f w h) : sx_post rt t g w h := by
  unfold sx_post at q ⊢
  split at q
  · exact sx_qv_m (fun h => m _ h) w h q
  · exact sx_qi_m (fun x h => m _ h) w h q
  · exact sx_qi_m (fun x h => m _ h) w h q
  · exact sx_ql_m (fun x h => m _ h) w h q
  · exact sx_qr_m (fun x h => m _ h) w h q
  · exact sx_qr_m (fun x h => m _ h) w h q
  · exact q.elim
/-- behind a call that answered: the stack is the answer on what lay below -/
theorem sx_post_e {rt : Option FieldType} {t : List Value} {f : List Value → sx_H → Prop} {w : Option Value} {h : sx_H} (q : sx_post rt t f w h) : f (w.toList ++ t) h := by
  unfold sx_post at q
  split at q
  · unfold sx_qv at q; split at q
    · exact q
    · exact q.elim
  · unfold sx_qi at q; split at q
    · exact q
    · exact q.elim
  · unfold sx_qi at q; split at q
    · exact q
    · exact q.elim
  · unfold sx_ql at q; split at q
    · exact q
    · exact q.elim
  · unfold sx_qr at q; split at q
    · exact q
    · exact q.elim
  · unfold sx_qr at q; split at q
    · exact q
    · exact q.elim
  · exact q.elim
def sx_tabP (lo : Int) : List Int → List (Int × Int)
  | [] => []
  | o :: r => (lo, o) :: sx_tabP (lo + 1) r
def sx_tabOk (lo hi : Int) (offs : Array Int) : Bool := decide (hi - lo + 1 = offs.toList.length ∧ -2147483648 ≤ lo ∧ hi ≤ 2147483647)
def sx_lookOk (ps : List (Int × Int)) : Bool := (ps.zip (ps.drop 1)).all (fun (a, next) => a.1 < next.1) && ps.all (fun p => decide (-2147483648 ≤ p.1 ∧ p.1 ≤ 2147483647))
/-- a call; kinds: 0 Math.max, 1 Math.min, 2 static, 3 static of a nest mate, 4 of an object -/
def sx_cl (sh : sx_S) (C : Nat → sx_L → sx_H → sx_Q → Prop) (f : List Value → sx_H → Prop) (e : sx_CE) (st : List Value) (h : sx_H) : Prop :=
  match e.2.2.1 with
  | 0 => sx_i2 st fun x y t => cond (Nat.ble (sx_cat t) 8) (f (.int (if x < y then y else x) :: t) h) False
  | 1 => sx_i2 st fun x y t => cond (Nat.ble (sx_cat t) 8) (f (.int (if y < x then y else x) :: t) h) False
  | 2 => match sx_pop e.2.1 [] st with
    | some (as, t) => cond (Nat.ble (sx_cat t) 8 && Nat.ble (sx_cat as) (sx_ml e.1)) (C e.1 (sx_entry (sx_ml e.1) as) h (sx_post (sx_rt e.1) t f)) False
    | none => False
  | 3 => match sx_pop e.2.1 [] st with
    | some (as, t) => cond (Nat.ble (sx_cat t) 8 && Nat.ble (sx_cat as) (sx_ml e.1)) (C e.1 (sx_entry (sx_ml e.1) as) h (sx_post (sx_rt e.1) t f)) False
    | none => False
  | 4 => match sx_pop e.2.1 [] st with
    | some (.ref b :: as, t) => cond (Nat.ble (sx_cat t) 8 && Nat.ble (sx_cat (.ref b :: as)) (sx_ml e.1)) ((sh.1 b).1 = e.2.2.2.1 + 4 ∧ C e.1 (sx_entry (sx_ml e.1) (.ref b :: as)) h (sx_post (sx_rt e.1) t f)) False
    | _ => False
  | _ => False
def sx_fv (h : sx_H) (a ci k : Nat) : Value := match sx_ft ci k with
  | 0 => .int (h.1 a k)
  | 1 => .long (h.2.1 a k)
  | 2 => .ref (h.2.2 a k)
  | d + 3 => .ref (a + d)
/-- one instruction: K goes on in this method, C is a callee's run, Q the end -/
def sx_ins (sh : sx_S) (j : Nat) (C : Nat → sx_L → sx_H → sx_Q → Prop) (K : Nat → sx_L → List Value → sx_H → Prop) (Q : sx_Q) (ins : ClassFile.Instr) (pc : Nat) (l : sx_L) (st : List Value) (h : sx_H) : Prop :=
  match ins with
  | .iconst n => K (pc + 1) l (.int (Int32.ofInt n) :: st) h
  | .bipush n => K (pc + 2) l (.int (Int8.ofInt n).toInt32 :: st) h
  | .sipush n => K (pc + 3) l (.int (Int16.ofInt n).toInt32 :: st) h
  | .lconst n => K (pc + 1) l (.long (Int64.ofNat n.val) :: st) h
  | .ldc i => match sx_cst j i with
    | some v => K (pc + 2) l (.int v :: st) h
    | none => False
  | .ldc2_w i => match sx_csl j i with
    | some v => K (pc + 3) l (.long v :: st) h
    | none => False
  | .iload i => sx_gi l i fun x => K (pc + 2) l (.int x :: st) h
  | .iload_n i => sx_gi l i.val fun x => K (pc + 1) l (.int x :: st) h
  | .lload i => sx_gl l i fun x => K (pc + 2) l (.long x :: st) h
  | .lload_n i => sx_gl l i.val fun x => K (pc + 1) l (.long x :: st) h
  | .aload i => sx_ga l i fun x => K (pc + 2) l (.ref x :: st) h
  | .aload_n i => sx_ga l i.val fun x => K (pc + 1) l (.ref x :: st) h
  | .istore i => sx_i1 st fun x t => cond (Nat.blt i (sx_ml j)) (K (pc + 2) (sx_s1 l i (.int x)) t h) False
  | .istore_n i => sx_i1 st fun x t => cond (Nat.blt i.val (sx_ml j)) (K (pc + 1) (sx_s1 l i.val (.int x)) t h) False
  | .lstore i => sx_l1 st fun x t => cond (Nat.blt (i + 1) (sx_ml j)) (K (pc + 2) (sx_s2 l i (.long x)) t h) False
  | .lstore_n i => sx_l1 st fun x t => cond (Nat.blt (i.val + 1) (sx_ml j)) (K (pc + 1) (sx_s2 l i.val (.long x)) t h) False
  | .astore i => sx_r1 st fun x t => cond (Nat.blt i (sx_ml j)) (K (pc + 2) (sx_s1 l i (.ref x)) t h) False
  | .astore_n i => sx_r1 st fun x t => cond (Nat.blt i.val (sx_ml j)) (K (pc + 1) (sx_s1 l i.val (.ref x)) t h) False
  | .iinc i n => sx_gi l i fun x => cond (Nat.blt i (sx_ml j)) (K (pc + 3) (sx_s1 l i (.int (x + Int32.ofInt n))) st h) False
  | .iadd => sx_i2 st fun x y t => K (pc + 1) l (.int (x + y) :: t) h
  | .isub => sx_i2 st fun x y t => K (pc + 1) l (.int (x - y) :: t) h
  | .imul => sx_i2 st fun x y t => K (pc + 1) l (.int (x * y) :: t) h
  | .iand => sx_i2 st fun x y t => K (pc + 1) l (.int (x &&& y) :: t) h
  | .ior => sx_i2 st fun x y t => K (pc + 1) l (.int (x ||| y) :: t) h
  | .ixor => sx_i2 st fun x y t => K (pc + 1) l (.int (x ^^^ y) :: t) h
  | .ishl => sx_i2 st fun x y t => K (pc + 1) l (.int (x <<< (y &&& 31)) :: t) h
  | .ishr => sx_i2 st fun x y t => K (pc + 1) l (.int (x >>> (y &&& 31)) :: t) h
  | .iushr => sx_i2 st fun x y t => K (pc + 1) l (.int (x.toUInt32 >>> (y.toUInt32 &&& Int32.toUInt32 31)).toInt32 :: t) h
  | .idiv => sx_i2 st fun x y t => ¬ y = 0 ∧ K (pc + 1) l (.int (x / y) :: t) h
  | .irem => sx_i2 st fun x y t => ¬ y = 0 ∧ K (pc + 1) l (.int (x - x / y * y) :: t) h
  | .ineg => sx_i1 st fun x t => K (pc + 1) l (.int (-x) :: t) h
  | .ladd => sx_l2 st fun x y t => K (pc + 1) l (.long (x + y) :: t) h
  | .lsub => sx_l2 st fun x y t => K (pc + 1) l (.long (x - y) :: t) h
  | .land => sx_l2 st fun x y t => K (pc + 1) l (.long (x &&& y) :: t) h
  | .lor => sx_l2 st fun x y t => K (pc + 1) l (.long (x ||| y) :: t) h
  | .lxor => sx_l2 st fun x y t => K (pc + 1) l (.long (x ^^^ y) :: t) h
  | .lshl => sx_li st fun x y t => K (pc + 1) l (.long (x <<< (y.toInt64 &&& 63)) :: t) h
  | .lshr => sx_li st fun x y t => K (pc + 1) l (.long (x >>> (y.toInt64 &&& 63)) :: t) h
  | .lushr => sx_li st fun x y t => K (pc + 1) l (.long (x.toUInt64 >>> (y.toInt64.toUInt64 &&& Int64.toUInt64 63)).toInt64 :: t) h
  | .lcmp => sx_l2 st fun x y t => K (pc + 1) l (.int (lg_cmp x y) :: t) h
  | .i2l => sx_i1 st fun x t => K (pc + 1) l (.long x.toInt64 :: t) h
  | .l2i => sx_l1 st fun x t => K (pc + 1) l (.int x.toInt32 :: t) h
  | .i2b => sx_i1 st fun x t => K (pc + 1) l (.int x.toInt8.toInt32 :: t) h
  | .dup => match st with
    | .int x :: t => K (pc + 1) l (.int x :: .int x :: t) h
    | .ref x :: t => K (pc + 1) l (.ref x :: .ref x :: t) h
    | _ => False
  | .dup2 => match st with
    | .int x :: .int y :: t => K (pc + 1) l (.int x :: .int y :: .int x :: .int y :: t) h
    | .int x :: .ref y :: t => K (pc + 1) l (.int x :: .ref y :: .int x :: .ref y :: t) h
    | .long x :: t => K (pc + 1) l (.long x :: .long x :: t) h
    | _ => False
  | .dup_x1 => match st with
    | .int x :: .int y :: t => K (pc + 1) l (.int x :: .int y :: .int x :: t) h
    | .int x :: .ref y :: t => K (pc + 1) l (.int x :: .ref y :: .int x :: t) h
    | _ => False
  | .dup_x2 => match st with
    | .int x :: .int y :: .ref z :: t => K (pc + 1) l (.int x :: .int y :: .ref z :: .int x :: t) h
    | _ => False
  | .pop => match st with
    | .int _ :: t => K (pc + 1) l t h
    | .ref _ :: t => K (pc + 1) l t h
    | _ => False
  | .pop2 => match st with
    | .long _ :: t => K (pc + 1) l t h
    | _ => False
  | .goto off => sx_jmp pc off fun t => K t l st h
  | .ifCond c off => sx_i1 st fun x t => sx_jmp pc off fun q => sx_c1 c x (K q l t h) (K (pc + 3) l t h)
  | .if_icmp c off => sx_i2 st fun x y t => sx_jmp pc off fun q => sx_c2 c x y (K q l t h) (K (pc + 3) l t h)
  | .tableswitch d lo hi offs => cond (sx_tabOk lo hi offs) (sx_i1 st fun x t => sx_sw x pc d (fun q => K q l t h) (sx_tabP lo offs.toList)) False
  | .lookupswitch d ps => cond (sx_lookOk ps.toList) (sx_i1 st fun x t => sx_sw x pc d (fun q => K q l t h) ps.toList) False
  | .getfield i => match sx_fld j i with
    | some e => sx_r1 st fun a t => (sh.1 a).1 = e.1 + 4 ∧ K (pc + 3) l (sx_fv h a e.1 e.2.1 :: t) h
    | none => False
  | .putfield i => match sx_fld j i with
    | some e => match sx_ft e.1 e.2.1 with
      | 0 => sx_ir st fun x a t => (sh.2 = true ∧ (sh.1 a).1 = e.1 + 4) ∧ K (pc + 3) l t (sx_u h.1 a e.2.1 x, h.2)
      | 1 => sx_lr' st fun x a t => (sh.2 = true ∧ (sh.1 a).1 = e.1 + 4) ∧ K (pc + 3) l t (h.1, sx_u h.2.1 a e.2.1 x, h.2.2)
      | 2 => sx_rr st fun x a t => (sh.2 = true ∧ (sh.1 a).1 = e.1 + 4) ∧ K (pc + 3) l t (h.1, h.2.1, sx_u h.2.2 a e.2.1 x)
      | _ => False
    | none => False
  | .iaload => sx_ir st fun i a t => ((sh.1 a).1 = 1 ∧ vp_in i (sh.1 a).2) ∧ K (pc + 1) l (.int (h.1 a i.toNatClampNeg) :: t) h
  | .laload => sx_ir st fun i a t => ((sh.1 a).1 = 2 ∧ vp_in i (sh.1 a).2) ∧ K (pc + 1) l (.long (h.2.1 a i.toNatClampNeg) :: t) h
  | .iastore => sx_iir st fun x i a t => (sh.2 = true ∧ (sh.1 a).1 = 1 ∧ vp_in i (sh.1 a).2) ∧ K (pc + 1) l t (sx_u h.1 a i.toNatClampNeg x, h.2)
  | .lastore => sx_lir st fun x i a t => (sh.2 = true ∧ (sh.1 a).1 = 2 ∧ vp_in i (sh.1 a).2) ∧ K (pc + 1) l t (h.1, sx_u h.2.1 a i.toNatClampNeg x, h.2.2)
  | .baload => sx_ir st fun i a t => ((sh.1 a).1 = 3 ∧ vp_in i (sh.1 a).2) ∧ K (pc + 1) l (.int (h.1 a i.toNatClampNeg) :: t) h
  | .bastore => sx_iir st fun x i a t => ((sh.2 = true ∧ (sh.1 a).1 = 3 ∧ vp_in i (sh.1 a).2) ∧ (x = 0 ∨ x = 1)) ∧ K (pc + 1) l t (sx_u h.1 a i.toNatClampNeg x, h.2)
  | .arraylength => sx_r1 st fun a t => ((sh.1 a).1 = 1 ∨ (sh.1 a).1 = 2) ∧ K (pc + 1) l (.int (Int32.ofNat (sh.1 a).2) :: t) h
  | .invokestatic i => match sx_cal j i with
    | some e => cond (Nat.blt e.2.2.1 4) (sx_cl sh C (fun t h => K (pc + 3) l t h) e st h) False
    | none => False
  | .invokevirtual i => match sx_cal j i with
    | some e => cond (Nat.beq e.2.2.1 4) (sx_cl sh C (fun t h => K (pc + 3) l t h) e st h) False
    | none => False
  | .new i => match sx_thr j i with
    | some k => match st with
      | [] => sh.2 = false ∧ Q (some (.retAddr k)) h
      | _ => False
    | none => False
  | .ireturn => match st with
    | [.int x] => match sx_rt j with
      | some .int => Q (some (.int x)) h
      | some .boolean => (x = 0 ∨ x = 1) ∧ Q (some (.int x)) h
      | _ => False
    | _ => False
  | .lreturn => match st with
    | [.long x] => match sx_rt j with
      | some .long => Q (some (.long x)) h
      | _ => False
    | _ => False
  | .areturn => match st with
    | [.ref x] => match sx_rt j with
      | some (.object _) => Q (some (.ref x)) h
      | some (.array _) => Q (some (.ref x)) h
      | _ => False
    | _ => False
  | .return_ => match st with
    | [] => match sx_rt j with
      | none => Q none h
      | _ => False
    | _ => False
  | _ => False
theorem sx_cl_m {sh : sx_S} {C C' : Nat → sx_L → sx_H → sx_Q → Prop} {f g : List Value → sx_H → Prop} (hC : ∀ j l h Q Q', (∀ w h, Q w h → Q' w h) → C j l h Q → C' j l h Q') (m : ∀ s h, f s h → g s h) {e : sx_CE} {st : List Value} {h : sx_H} (H : sx_cl sh C f e st h) : sx_cl sh C' g e st h := by
  obtain ⟨j', na, kd, ci, pl⟩ := e
  have two : ∀ {X Y : Prop}, (X → Y) → ∀ b : Bool, cond b X False → cond b Y False := fun k b => by cases b <;> simp_all
  match kd, H with
  | 0, H => exact sx_i2_m (fun x y t z => two (m _ _) _ z) H
  | 1, H => exact sx_i2_m (fun x y t z => two (m _ _) _ z) H
  | 2, H =>
    simp only [sx_cl] at H ⊢
    split at H
    · exact two (hC _ _ _ _ _ (sx_post_m m)) _ H
    · exact H
  | 3, H =>
    simp only [sx_cl] at H ⊢
    split at H
    · exact two (hC _ _ _ _ _ (sx_post_m m)) _ H
    · exact H
  | 4, H =>
    simp only [sx_cl] at H ⊢
    split at H
    · exact two (fun z => ⟨z.1, hC _ _ _ _ _ (sx_post_m m) z.2⟩) _ H
    · exact H
  | n + 5, H => exact False.elim H
set_option maxHeartbeats 4000000 in
theorem sx_ins_m {sh : sx_S} {j : Nat} {C C' : Nat → sx_L → sx_H → sx_Q → Prop} {K K' : Nat → sx_L → List Value → sx_H → Prop} {Q Q' : sx_Q} (hC : ∀ j l h Q Q', (∀ w h, Q w h → Q' w h) → C j l h Q → C' j l h Q') (hK : ∀ pc l st h, K pc l st h → K' pc l st h) (hQ : ∀ w h, Q w h → Q' w h) {ins : ClassFile.Instr} {pc : Nat} {l : sx_L} {st : List Value} {h : sx_H} (H : sx_ins sh j C K Q ins pc l st h) : sx_ins sh j C' K' Q' ins pc l st h := by
  have two : ∀ {X Y : Prop}, (X → Y) → ∀ b : Bool, cond b X False → cond b Y False := fun k b => by cases b <;> simp_all
  cases ins with
  | iconst n => exact hK _ _ _ _ H
  | bipush n => exact hK _ _ _ _ H
  | sipush n => exact hK _ _ _ _ H
  | lconst n => exact hK _ _ _ _ H
  | ldc i => simp only [sx_ins] at H ⊢; split at H; exact hK _ _ _ _ H; exact H
  | ldc2_w i => simp only [sx_ins] at H ⊢; split at H; exact hK _ _ _ _ H; exact H
  | iload i => exact sx_gi_m (fun _ z => hK _ _ _ _ z) H
  | iload_n i => exact sx_gi_m (fun _ z => hK _ _ _ _ z) H
  | lload i => exact sx_gl_m (fun _ z => hK _ _ _ _ z) H
  | lload_n i => exact sx_gl_m (fun _ z => hK _ _ _ _ z) H
  | aload i => exact sx_ga_m (fun _ z => hK _ _ _ _ z) H
  | aload_n i => exact sx_ga_m (fun _ z => hK _ _ _ _ z) H
  | istore i => exact sx_i1_m (fun _ _ z => two (hK _ _ _ _) _ z) H
  | istore_n i => exact sx_i1_m (fun _ _ z => two (hK _ _ _ _) _ z) H
  | lstore i => exact sx_l1_m (fun _ _ z => two (hK _ _ _ _) _ z) H
  | lstore_n i => exact sx_l1_m (fun _ _ z => two (hK _ _ _ _) _ z) H
  | astore i => exact sx_r1_m (fun _ _ z => two (hK _ _ _ _) _ z) H
  | astore_n i => exact sx_r1_m (fun _ _ z => two (hK _ _ _ _) _ z) H
  | iinc i n => exact sx_gi_m (fun _ z => two (hK _ _ _ _) _ z) H
  | iadd => exact sx_i2_m (fun _ _ _ z => hK _ _ _ _ z) H
  | isub => exact sx_i2_m (fun _ _ _ z => hK _ _ _ _ z) H
  | imul => exact sx_i2_m (fun _ _ _ z => hK _ _ _ _ z) H
  | iand => exact sx_i2_m (fun _ _ _ z => hK _ _ _ _ z) H
  | ior => exact sx_i2_m (fun _ _ _ z => hK _ _ _ _ z) H
  | ixor => exact sx_i2_m (fun _ _ _ z => hK _ _ _ _ z) H
  | ishl => exact sx_i2_m (fun _ _ _ z => hK _ _ _ _ z) H
  | ishr => exact sx_i2_m (fun _ _ _ z => hK _ _ _ _ z) H
  | iushr => exact sx_i2_m (fun _ _ _ z => hK _ _ _ _ z) H
  | idiv => exact sx_i2_m (fun _ _ _ z => ⟨z.1, hK _ _ _ _ z.2⟩) H
  | irem => exact sx_i2_m (fun _ _ _ z => ⟨z.1, hK _ _ _ _ z.2⟩) H
  | ineg => exact sx_i1_m (fun _ _ z => hK _ _ _ _ z) H
  | ladd => exact sx_l2_m (fun _ _ _ z => hK _ _ _ _ z) H
  | lsub => exact sx_l2_m (fun _ _ _ z => hK _ _ _ _ z) H
  | land => exact sx_l2_m (fun _ _ _ z => hK _ _ _ _ z) H
  | lor => exact sx_l2_m (fun _ _ _ z => hK _ _ _ _ z) H
  | lxor => exact sx_l2_m (fun _ _ _ z => hK _ _ _ _ z) H
  | lshl => exact sx_li_m (fun _ _ _ z => hK _ _ _ _ z) H
  | lshr => exact sx_li_m (fun _ _ _ z => hK _ _ _ _ z) H
  | lushr => exact sx_li_m (fun _ _ _ z => hK _ _ _ _ z) H
  | lcmp => exact sx_l2_m (fun _ _ _ z => hK _ _ _ _ z) H
  | i2l => exact sx_i1_m (fun _ _ z => hK _ _ _ _ z) H
  | l2i => exact sx_l1_m (fun _ _ z => hK _ _ _ _ z) H
  | i2b => exact sx_i1_m (fun _ _ z => hK _ _ _ _ z) H
  | dup => simp only [sx_ins] at H ⊢; split at H; exact hK _ _ _ _ H; exact hK _ _ _ _ H; exact H.elim
  | dup2 => simp only [sx_ins] at H ⊢; split at H; exact hK _ _ _ _ H; exact hK _ _ _ _ H; exact hK _ _ _ _ H; exact H.elim
  | dup_x1 => simp only [sx_ins] at H ⊢; split at H; exact hK _ _ _ _ H; exact hK _ _ _ _ H; exact H.elim
  | dup_x2 => simp only [sx_ins] at H ⊢; split at H; exact hK _ _ _ _ H; exact H.elim
  | pop => simp only [sx_ins] at H ⊢; split at H; exact hK _ _ _ _ H; exact hK _ _ _ _ H; exact H.elim
  | pop2 => simp only [sx_ins] at H ⊢; split at H; exact hK _ _ _ _ H; exact H.elim
  | goto off => exact sx_jmp_m (fun _ z => hK _ _ _ _ z) H
  | ifCond c off => exact sx_i1_m (fun _ _ z => sx_jmp_m (fun _ w => sx_c1_m (hK _ _ _ _) (hK _ _ _ _) w) z) H
  | if_icmp c off => exact sx_i2_m (fun _ _ _ z => sx_jmp_m (fun _ w => sx_c2_m (hK _ _ _ _) (hK _ _ _ _) w) z) H
  | tableswitch d lo hi offs => exact two (sx_i1_m (fun _ _ z => sx_sw_m (fun _ w => hK _ _ _ _ w) z)) _ H
  | lookupswitch d ps => exact two (sx_i1_m (fun _ _ z => sx_sw_m (fun _ w => hK _ _ _ _ w) z)) _ H
  | getfield i => simp only [sx_ins] at H ⊢; split at H; exact sx_r1_m (fun _ _ z => ⟨z.1, hK _ _ _ _ z.2⟩) H; exact H
  | putfield i =>
    simp only [sx_ins] at H ⊢
    split at H
    · split at H
      · exact sx_ir_m (fun _ _ _ z => ⟨z.1, hK _ _ _ _ z.2⟩) H
      · exact sx_lr'_m (fun _ _ _ z => ⟨z.1, hK _ _ _ _ z.2⟩) H
      · exact sx_rr_m (fun _ _ _ z => ⟨z.1, hK _ _ _ _ z.2⟩) H
      · exact H.elim
    · exact H
  | iaload => exact sx_ir_m (fun _ _ _ z => ⟨z.1, hK _ _ _ _ z.2⟩) H
  | laload => exact sx_ir_m (fun _ _ _ z => ⟨z.1, hK _ _ _ _ z.2⟩) H
  | iastore => exact sx_iir_m (fun _ _ _ _ z => ⟨z.1, hK _ _ _ _ z.2⟩) H
  | lastore => exact sx_lir_m (fun _ _ _ _ z => ⟨z.1, hK _ _ _ _ z.2⟩) H
  | baload => exact sx_ir_m (fun _ _ _ z => ⟨z.1, hK _ _ _ _ z.2⟩) H
  | bastore => exact sx_iir_m (fun _ _ _ _ z => ⟨z.1, hK _ _ _ _ z.2⟩) H
  | arraylength => exact sx_r1_m (fun _ _ z => ⟨z.1, hK _ _ _ _ z.2⟩) H
  | invokestatic i => simp only [sx_ins] at H ⊢; split at H; exact two (sx_cl_m hC (fun _ _ z => hK _ _ _ _ z)) _ H; exact H
  | invokevirtual i => simp only [sx_ins] at H ⊢; split at H; exact two (sx_cl_m hC (fun _ _ z => hK _ _ _ _ z)) _ H; exact H
  | new i =>
    simp only [sx_ins] at H ⊢
    split at H
    · split at H
      · exact ⟨H.1, hQ _ _ H.2⟩
      · exact H.elim
    · exact H
  | ireturn =>
    simp only [sx_ins] at H ⊢
    split at H
    · split at H
      · exact hQ _ _ H
      · exact ⟨H.1, hQ _ _ H.2⟩
      · exact H.elim
    · exact H.elim
  | lreturn =>
    simp only [sx_ins] at H ⊢
    split at H
    · split at H
      · exact hQ _ _ H
      · exact H.elim
    · exact H.elim
  | areturn =>
    simp only [sx_ins] at H ⊢
    split at H
    · split at H
      · exact hQ _ _ H
      · exact hQ _ _ H
      · exact H.elim
    · exact H.elim
  | return_ =>
    simp only [sx_ins] at H ⊢
    split at H
    · split at H
      · exact hQ _ _ H
      · exact H.elim
    · exact H.elim
  | _ => exact False.elim H
-- the least predicate that the instructions close
abbrev sx_T : Type := Nat → Nat → sx_L → List Value → sx_H → sx_Q → Prop
def sx_mono (P : sx_T) : Prop := ∀ j pc l st h (Q Q' : sx_Q), (∀ w h, Q w h → Q' w h) → P j pc l st h Q → P j pc l st h Q'
def sx_clos (sh : sx_S) (P : sx_T) : Prop := ∀ j pc l st h (Q : sx_Q) ins len, sx_code j pc = some (ins, len) →
  sx_ins sh j (fun j' l' h' Q' => P j' 0 l' [] h' Q') (fun pc' l' st' h' => P j pc' l' st' h' Q) Q ins pc l st h → P j pc l st h Q
/-- the method j, from pc on, comes to an end that Q names -/
def sx_X (sh : sx_S) : sx_T := fun j pc l st h Q => ∀ P : sx_T, sx_mono P → sx_clos sh P → P j pc l st h Q
theorem sx_X_mono (sh : sx_S) : sx_mono (sx_X sh) := fun j pc l st h Q Q' m H P hm hc => hm j pc l st h Q Q' m (H P hm hc)
theorem sx_X_clos (sh : sx_S) : sx_clos sh (sx_X sh) := fun j pc l st h Q ins len hd H P hm hc =>
  hc j pc l st h Q ins len hd (sx_ins_m (fun j' l' h' Q1 Q2 m z => hm _ _ _ _ _ _ _ m (z P hm hc)) (fun pc' l' st' h' z => z P hm hc) (fun _ _ z => z) H)
/-- a stretch of a method, up to the next cut -/
def sx_g (sh : sx_S) (cuts : List Nat) : Nat → sx_T
  | 0, j, pc, l, st, h, Q => sx_X sh j pc l st h Q
  | n + 1, j, pc, l, st, h, Q => match sx_code j pc with
    | some e => sx_ins sh j (fun j' l' h' Q' => sx_X sh j' 0 l' [] h' Q') (fun pc' l' st' h' => cond (cuts.contains pc') (sx_X sh j pc' l' st' h' Q) (sx_g sh cuts n j pc' l' st' h' Q)) Q e.1 pc l st h
    | none => False
theorem sx_g_ok {sh : sx_S} {cuts : List Nat} : ∀ (n : Nat) {j pc : Nat} {l : sx_L} {st : List Value} {h : sx_H} {Q : sx_Q}, sx_g sh cuts n j pc l st h Q → sx_X sh j pc l st h Q
  | 0, _, _, _, _, _, _, H => H
  | n + 1, j, pc, l, st, h, Q, H => by
    unfold sx_g at H
    split at H
    · rename_i e he
      obtain ⟨ins, len⟩ := e
      refine sx_X_clos sh j pc l st h Q ins len he (sx_ins_m (C := fun j' l' h' Q' => sx_X sh j' 0 l' [] h' Q') (fun j' l' h' Q1 Q2 m z => sx_X_mono sh j' 0 l' [] h' Q1 Q2 m z) (fun pc' l' st' h' z => ?_) (fun _ _ z => z) H)
      cases hcut : cuts.contains pc' with
      | true => rw [hcut] at z; exact z
      | false => rw [hcut] at z; exact sx_g_ok n z
    · exact H.elim
