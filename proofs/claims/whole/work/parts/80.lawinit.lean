-- THE START: all zeros, but the reference's kind of the variable 0
section LWZ
def i0 : sx_H := (fun a => if a = 48 then va_up (fun _ => 0) 0 3 else fun _ => 0, fun _ _ => 0, fun a k => if a = 0 then (if k = 4 then 17 else if k = 5 then 28 else 0) else 0)
theorem shp_hi {a : Nat} (h : 65 ≤ a) : (sx_shp a).1 = 0 := by
  unfold sx_shp
  rw [List.getD_eq_getElem?_getD, List.getElem?_eq_none (show sx_shT.length ≤ a from h)]
  rfl
theorem i0_z {a : Nat} (h : a ≠ 48) (k : Nat) : i0.1 a k = 0 := by
  show (if a = 48 then va_up (fun _ => 0) 0 3 else fun _ => (0 : Int32)) k = 0
  rw [if_neg h]
theorem np0 : NP 0 0 0 0 [] [] [] [] (fun _ => 0) (fun _ => 0) (fun _ => 0) := by
  refine ⟨⟨⟨by decide, by decide, by decide, by decide⟩, ⟨rfl, rfl, rfl⟩, ⟨fun x hx => (by cases hx), List.Pairwise.nil⟩, okG_nil, fun x hx => (by cases hx)⟩, fun x hx => (by cases hx), fun g hg => (by cases hg), ⟨?_, fun g hg => (by cases hg), fun v _ => rfl, List.Pairwise.nil, fun u hu => (by cases hu)⟩, fun g hg => (by cases hg), rfl, fun g hg => (by cases hg)⟩
  show ([0] ++ [] : List Nat).Nodup
  simp
theorem INV0 : INV i0 := by
  refine ⟨0, fun _ => 0, [], 0, 0, 17, 28, 0, 0, 0, 0, [], [], [], [], fun _ => 0, fun _ => 0, fun _ => 0, fun n => 2 * n, ⟨⟨i0_z (by decide) 0, Nat.zero_le _, fun i hi => absurd hi (Nat.not_lt_zero _)⟩, ⟨i0_z (by decide) 0, Nat.zero_le _, fun i hi => absurd hi (Nat.not_lt_zero _)⟩, ⟨i0_z (by decide) 1, i0_z (by decide) 2⟩, ⟨rfl, rfl⟩, Or.inl ⟨rfl, rfl⟩, ⟨np0, ⟨⟨i0_z (by decide) 0, i0_z (by decide) 1, i0_z (by decide) 2, i0_z (by decide) 3⟩, fun i x hx => (by cases hx), fun i x hx => (by cases hx), fun k g hg => (by cases hg)⟩, fun v hv => ?_, fun n v hv => i0_z (by decide) n, fun n h1 h2 => (by omega), fun n hn => ?_, fun n hn => rfl, fun n h1 h2 => (by omega)⟩⟩, ⟨⟨i0_z (by decide) 2, Nat.zero_le _, fun i hi => absurd hi (Nat.not_lt_zero _)⟩, ⟨i0_z (by decide) 4, Nat.zero_le _, fun i hi => absurd hi (Nat.not_lt_zero _)⟩, ⟨i0_z (by decide) 5, i0_z (by decide) 6⟩, ⟨i0_z (by decide) 7, i0_z (by decide) 8, i0_z (by decide) 9, i0_z (by decide) 10⟩, fun i x hx => (by cases hx), fun i x hx => (by cases hx), fun k g hg => (by cases hg), fun v hv => ?_⟩⟩
  · by_cases q : v = 0
    · refine Or.inl ⟨0, ?_, ?_⟩
      · rw [q]; rfl
      · exact i0_z (by decide) v
    · refine Or.inr (Or.inr ⟨fun z => q ?_, fun g hg => (by cases hg), i0_z (by decide) v⟩)
      have : v ∈ [0] := z
      exact List.mem_singleton.mp this
  · have : n = 0 := by omega
    subst this
    exact ⟨i0_z (by decide) 0, Nat.le_refl _⟩
  · show (if 48 = 48 then va_up (fun _ => 0) 0 3 else fun _ => (0 : Int32)) v = _
    rw [if_pos rfl]
    by_cases q : v = 0
    · rw [q, va_up_self]; rfl
    · rw [va_up_ne _ _ q]
      have : kdv [] [] v = 0 := kdv_0.mpr ⟨q, fun x hx => (by cases hx), fun g hg => (by cases hg)⟩
      rw [this]; rfl
end LWZ
