-- THE REFERENCE WRITES
variable {h : sx_H} {n er pl M I O A : Nat} {t : Nat → Nat} {tx L OU : List Nat} {G : List gt} {T : List Nat} {dp hi lo fo : Nat → Nat}
theorem flatMap_len {α : Type} {F : α → List Nat} {c : Nat} : ∀ (l : List α), (∀ a ∈ l, (F a).length ≤ c) → (l.flatMap F).length ≤ c * l.length
  | [], _ => Nat.zero_le _
  | a :: l, h => by
    have ih := flatMap_len l (fun b hb => h b (List.mem_cons_of_mem _ hb))
    have ha := h a List.mem_cons_self
    rw [List.flatMap_cons, List.length_append, List.length_cons, Nat.mul_add]
    omega
theorem wtx_len (np : NP M I O A L OU G T dp hi lo) (bin : Bool) : (wtx bin I O A hi lo fo (sv L ++ T) OU).length ≤ 3744 := by
  obtain ⟨⟨wM, wI, wO, wA⟩, ⟨lL, lO, lG⟩, -⟩ := np.1
  unfold wtx ctx
  have l1 := ltx_len bin I O (cO I A hi lo fo (sv L ++ T) OU)
  have l2 : (cond bin [] (itx I)).length ≤ 4 * I := by
    cases bin with
    | true => exact Nat.zero_le _
    | false =>
      have := flatMap_len (F := fun k => nmb (2 * (k + 1)) 10) (c := 4) (List.range I) (fun a _ => nmb_len _ _)
      rw [List.length_range] at this
      exact this
  have l3 : (otx I (oC I A hi lo fo (sv L ++ T) OU) (sv L ++ T) OU).length ≤ 4 * O := by
    have := flatMap_len (F := fun x => nmb (wl I (oC I A hi lo fo (sv L ++ T) OU) (nl (sv L ++ T) x)) 10) (c := 4) OU (fun a _ => nmb_len _ _)
    rw [lO] at this
    exact this
  have l4 : ((List.range' (I + 1) A).flatMap (ngx bin I (oC I A hi lo fo (sv L ++ T) OU) hi lo)).length ≤ 12 * A := by
    have := flatMap_len (F := ngx bin I (oC I A hi lo fo (sv L ++ T) OU) hi lo) (c := 12) (List.range' (I + 1) A) (fun m _ => by
      by_cases q : oC I A hi lo fo (sv L ++ T) OU m
      · rw [ngx_y q]; exact gtx_len _ _ _ _
      · rw [ngx_n q]; exact Nat.zero_le _)
    rw [List.length_range'] at this
    exact this
  rw [List.length_append, List.length_append, List.length_append]
  omega
/-- what stays while it writes, from the heap hA on, with the rows of depths and of reached -/
def WW (hA : sx_H) (r5 r7 : Nat → Int32) (h0 : sx_H) : Prop := kp (fun b => b = 40 ∨ b = 42 ∨ 55 ≤ b) hA h0 ∧ (∀ k, k ≠ 4 → h0.1 40 k = hA.1 40 k) ∧ h0.1 55 = r5 ∧ h0.1 57 = r7
theorem WW.kt {hA h0 h' : sx_H} {r5 r7 : Nat → Int32} (w : WW hA r5 r7 h0) (k : kt h0 h') : WW hA r5 r7 h' := ⟨w.1.tr (k.1.mo (fun b hb => by omega)), fun q hq => (k.2 q hq).trans (w.2.1 q hq), (k.b (by decide) (by decide)).trans w.2.2.1, (k.b (by decide) (by decide)).trans w.2.2.2⟩
theorem WW.u {hA h0 : sx_H} {r5 r7 : Nat → Int32} (w : WW hA r5 r7 h0) (k : Nat) (v : Int32) : WW hA r5 r7 (sx_u h0.1 64 k v, h0.2.1, h0.2.2) := by
  refine ⟨w.1.tr (kp_hw (S := fun b => b = 40 ∨ b = 42 ∨ 55 ≤ b) (a := 64) (by omega)), fun q hq => ?_, ?_, ?_⟩
  · show sx_u h0.1 64 k v 40 q = _
    rw [sx_u_ne (by decide)]; exact w.2.1 q hq
  · show sx_u h0.1 64 k v 55 = _
    rw [sx_u_ne (by decide)]; exact w.2.2.1
  · show sx_u h0.1 64 k v 57 = _
    rw [sx_u_ne (by decide)]; exact w.2.2.2
theorem rT_u64 {h0 : sx_H} {tx0 : List Nat} {k : Nat} {v : Int32} (ht : rT h0 tx0) : rT (sx_u h0.1 64 k v, h0.2.1, h0.2.2) tx0 := ht.eq (sx_u_ne (a := 64) (b := 42) (f := h0.1) (k := k) (v := v) (by decide)) (congrFun (sx_u_ne (a := 64) (b := 40) (f := h0.1) (k := k) (v := v) (by decide)) 4)
theorem f_write {bin : Bool} {f : Int32 → sx_H → Prop} (ir : IR h n t tx er pl M I O A L OU G) (np : NP M I O A L OU G T dp hi lo)
    (H : ∀ h', PR h h' 0 n t (wtx bin I O A hi lo fo (sv L ++ T) OU) er pl M I O A L OU G → f (nI (wtx bin I O A hi lo fo (sv L ++ T) OU).length) h') :
    sx_X sx_w 118 0 [some (.ref 40), some (.int (if bin then 1 else 0)), none, none, none, none] [] h (sx_qi f) := by
  have w := np.1
  obtain ⟨⟨wM, wI, wO, wA⟩, ⟨lL, lO, lG⟩, wL, wG, wO2⟩ := w
  have ir0 := th_IR 0 ir
  generalize eA : ((sx_u (sx_u h.1 40 0 0) 40 4 0, h.2.1, h.2.2) : sx_H) = hA
  have erA : sx_u (sx_u h.1 40 0 0) 40 4 0 = hA.1 := by rw [← eA]
  have aK : kc h hA := by
    rw [← eA]
    exact (th_kc h 0).tr (kp_hw (S := fun b => 40 ≤ b) (a := 40) (by decide))
  have a4 : hA.1 40 4 = nI 0 := by rw [← erA, sx_u_eq, va_up_self]; rfl
  have ak : ∀ k, k ≠ 4 → hA.1 40 k = (th h 0).1 40 k := fun k hk => by rw [← erA, sx_u_eq, va_up_ne _ _ hk]; rfl
  have ab : ∀ b, b ≠ 40 → hA.1 b = (th h 0).1 b := fun b hb => by rw [← erA, sx_u_ne hb]; rfl
  have rA : rM hA M I O A L OU G := ir0.2.2.2.eq (fun j h1 h2 => ab j (by omega)) (fun q h1 h2 => ak q (by omega))
  have g0 : sx_X sx_w 97 0 [some (.ref 40), none, none, none, none, none] [] hA (sx_qv fun h1 => ((sx_w.1 40).1 = 11 ∧ sx_X sx_w 102 0 [some (.ref 40), none] [] h1 (sx_qi fun x3 h2 => ((sx_w.1 40).1 = 11 ∧ ((sx_w.2 = true ∧ (sx_w.1 (40 + 24)).1 = 1 ∧ vp_in 0 (sx_w.1 (40 + 24)).2) ∧ sx_X sx_w 118 28 [some (.ref 40), some (.int (if bin then 1 else 0)), some (.int x3), some (.int 0), none, none] [] (sx_u h2.1 (40 + 24) (Int32.toNatClampNeg 0) 0, h2.2.1, h2.2.2) (sx_qi f)))))) := by
    refine f_deepen rA np.1 np.dq np.dp0 np.dpB (by decide) (fun h1 k1 hdep => ⟨rfl, f_needed (rA.eq (fun j h1 h2 => k1.i (by omega)) (fun q _ _ => congrFun (k1.i (by omega)) q)) np.1 (fun h2 k2 hB hre => ⟨rfl, ⟨rfl, rfl, vp_in_nI (n := 0) (N := 1001) (by decide) (by decide)⟩, ?_⟩)⟩)
    rw [show Int32.toNatClampNeg 0 = 0 from rfl]
    generalize ea : cnP (fun g : gt => rch G (oS OU) (g.1 / 2)) G = a
    have eaT : cnP (rch G (oS OU)) T = a := by rw [← np.many, ea]
    have eaO : cO I A hi lo fo (sv L ++ T) OU = a := by rw [np.cOr, ea]
    have aA : a ≤ A := by
      rw [← eaT]
      have := cnP_len (P := rch G (oS OU)) T
      rw [np.2.2.2.2.2.1] at this
      exact this
    have lenF := wtx_len (fo := fo) np bin
    generalize eF : wtx bin I O A hi lo fo (sv L ++ T) OU = Full at H lenF
    unfold wtx at eF
    rw [eaO] at eF
    unfold ctx at eF
    rw [np.flat] at eF
    generalize eC : oC I A hi lo fo (sv L ++ T) OU = C at eF
    have kq2 : WW hA (h1.1 55) (h2.1 57) h2 := ⟨(k1.mo (fun b hb => by omega)).tr (k2.mo (fun b hb => by unfold r57 at hb; omega)), fun q _ => (congrFun (k2.i (by unfold r57; omega)) q).trans (congrFun (k1.i (by omega)) q), k2.i (by unfold r57; omega), rfl⟩
    have wrM : ∀ {h0 : sx_H}, WW hA (h1.1 55) (h2.1 57) h0 → rM h0 M I O A L OU G := fun {h0} ww => rA.eq (fun j h1 h2 => ww.1.i (by omega)) (fun q h1 h2 => ww.2.1 q (by omega))
    have gle : ∀ g ∈ G, g.1 / 2 ≤ M ∧ g.1 / 2 ≤ 1000 ∧ gM g / 2 ≤ 1000 ∧ gm g / 2 ≤ 1000 ∧ g.1 < 2 ^ 31 ∧ gM g < 2 ^ 31 ∧ gm g < 2 ^ 31 := fun g hg => by
      have a := wG.1 g hg
      have b := gm_le g
      have c : gM g ≤ 2 * M + 1 := by unfold gM; omega
      omega
    have Tg : ∀ u ∈ T, 1 ≤ u ∧ u ≤ M := fun u hu => by
      obtain ⟨g, hg, e⟩ := np.2.2.2.1.2.2.2.2 u hu
      have := (sv_gate np.1 hg).2
      rw [e] at this
      exact this
    -- the names, once all are given
    have names : ∀ (h0 : sx_H), (∀ u, (u ∈ sv L ∨ (u ∈ T ∧ rch G (oS OU) u)) → h0.1 64 u = nI (wr I C ((sv L ++ T).idxOf u))) → ∀ x, (x / 2 ∈ sv L ++ T) → (x / 2 ∈ T → rch G (oS OU) (x / 2)) → h0.1 64 (x / 2) = nI (wr I C ((sv L ++ T).idxOf (x / 2))) := fun h0 nm x hx hr => nm _ (by
      rcases List.mem_append.mp hx with q | q
      · exact Or.inl q
      · exact Or.inr ⟨q, hr q⟩)
    have wlx : ∀ x, 2 * wr I C ((sv L ++ T).idxOf (x / 2)) + x % 2 = wl I C (nl (sv L ++ T) x) := fun x => by
      unfold wl
      rw [(nl_half _ x).1, (nl_half _ x).2]
    have CR : ∀ u, u ∈ sv L ++ T → (C ((sv L ++ T).idxOf u) ↔ rch G (oS OU) u) := fun u hu => by rw [← eC]; exact np.oCr hu
    have nlI : ∀ x, x / 2 ∈ sv L ++ T → (x / 2 ∈ T → rch G (oS OU) (x / 2)) → (nl (sv L ++ T) x / 2 ≤ I ∨ C (nl (sv L ++ T) x / 2)) := fun x hx hr => by
      rw [(nl_half _ x).1]
      rcases List.mem_append.mp hx with q | q
      · refine Or.inl ?_
        have := List.idxOf_lt_length_of_mem q
        rw [sv_len, lL] at this
        rw [List.idxOf_append, if_pos q]
        omega
      · exact Or.inr ((CR _ hx).mpr (hr q))
    -- the gates' texts
    have gates : ∀ (rest : List Nat) (i : Nat) (h0 : sx_H) (tx0 : List Nat) (o5 : Option Value), (fil (rch G (oS OU)) T).drop i = rest → i ≤ (fil (rch G (oS OU)) T).length → WW hA (h1.1 55) (h2.1 57) h0 → rT h0 tx0 → (∀ u, (u ∈ sv L ∨ (u ∈ T ∧ rch G (oS OU) u)) → h0.1 64 u = nI (wr I C ((sv L ++ T).idxOf u))) → tx0 ++ rest.flatMap (uF bin I C hi lo (sv L ++ T)) = Full →
        sx_X sx_w 118 298 [some (.ref 40), some (.int (if bin then 1 else 0)), some (.int (nI a)), some (.int (nI (I + a))), some (.int (nI (I + 1 + i))), o5] [] h0 (sx_qi f) := by
      intro rest
      induction rest with
      | nil =>
        intro i h0 tx0 o5 hd hil ww ht nm hF
        have hl := dropn hd
        rw [fil_len, eaT] at hl hil
        refine g_118_298 h0 40 _ _ _ _ o5 (pk_lt (I + a) (I + 1 + i) (fun _ => ⟨rfl, ?_⟩) (fun z => (by omega)))
        have et : tx0 = Full := by rw [← hF]; exact (List.append_nil _).symm
        rw [et] at ht
        rw [ht.1]
        refine H h0 ⟨aK.tr (ww.1.mo (fun b hb => by omega)), ?_, ⟨?_, ir0.1.2.1, fun i hi => ?_⟩, ht, ⟨?_, ?_⟩, wrM ww⟩
        · rw [ww.2.1 0 (by decide), ak 0 (by decide)]; exact th_0 h 0
        · rw [ww.2.1 2 (by decide), ak 2 (by decide)]; exact ir0.1.1
        · rw [ww.1.i (by omega), ab 41 (by decide)]; exact ir0.1.2.2 i hi
        · rw [ww.2.1 5 (by decide), ak 5 (by decide)]; exact ir0.2.2.1.1
        · rw [ww.2.1 6 (by decide), ak 6 (by decide)]; exact ir0.2.2.1.2
      | cons u rest ihr =>
        intro i h0 tx0 o5 hd _ ww ht nm hF
        obtain ⟨hil, hu, hd'⟩ := dropc hd
        rw [fil_len, eaT] at hil
        obtain ⟨j, j1, j2, j3⟩ := fil_at hu
        have uT := List.mem_of_getElem? j1
        have rk : wr I C ((sv L ++ T).idxOf u) = I + 1 + i := by rw [← eC, np.rank j1, j3]
        have inner : ∀ (r2 : List gt) (k : Nat) (h0 : sx_H) (tx1 : List Nat), G.drop k = r2 → k ≤ G.length → WW hA (h1.1 55) (h2.1 57) h0 → rT h0 tx1 → (∀ u, (u ∈ sv L ∨ (u ∈ T ∧ rch G (oS OU) u)) → h0.1 64 u = nI (wr I C ((sv L ++ T).idxOf u))) → ((tx1 = tx0 ∧ ∃ g ∈ r2, g.1 / 2 = u) ∨ (tx1 = tx0 ++ uF bin I C hi lo (sv L ++ T) u ∧ ∀ g ∈ r2, g.1 / 2 ≠ u)) →
            sx_X sx_w 118 307 [some (.ref 40), some (.int (if bin then 1 else 0)), some (.int (nI a)), some (.int (nI (I + a))), some (.int (nI (I + 1 + i))), some (.int (nI k))] [] h0 (sx_qi f) := by
          intro r2
          induction r2 with
          | nil =>
            intro k h0 tx1 hd2 hk ww ht nm hcase
            have hl := dropn hd2
            refine g_118_307 h0 40 _ _ _ _ _ ⟨rfl, ?_⟩
            rw [(wrM ww).1.2.2.1, nI_1]
            refine pk_le A k (fun _ => ?_) (fun z => (by omega))
            rcases hcase with ⟨-, g, hg, -⟩ | ⟨e1, -⟩
            · cases hg
            · refine ihr (i + 1) h0 tx1 _ hd' (by rw [fil_len, eaT]; omega) ww ht nm ?_
              rw [e1, ← hF, List.flatMap_cons, List.append_assoc]
          | cons g r2 ih2 =>
            intro k h0 tx1 hd2 _ ww ht nm hcase
            obtain ⟨hk, hg, hd2'⟩ := dropc hd2
            have hgG := List.mem_of_getElem? hg
            obtain ⟨e0, e1, e2, e3, e4, e5, e6⟩ := gle g hgG
            obtain ⟨r1, r2', r3⟩ := (wrM ww).2.2.2.1 k g hg
            have va : vp_in (nI k) 300 := vp_in_nI (by omega) (by decide)
            have vo : vp_in (nI (g.1 / 2)) 1001 := vp_in_nI (by omega) (by decide)
            obtain ⟨a0, a1, a2, -, -⟩ := np.nds hgG
            have reB := hB (g.1 / 2) (by omega)
            have reI := hre (g.1 / 2) (by omega)
            have r17 : h0.1 (40 + 17) (g.1 / 2) = h2.1 57 (g.1 / 2) := congrFun ww.2.2.2 _
            have pw2 : ∀ g' ∈ r2, g'.1 / 2 ≠ g.1 / 2 := fun g' hg' e => by
              have pw := List.Pairwise.drop (i := k) wG.2
              rw [hd2] at pw
              exact (List.pairwise_cons.mp pw).1 g' hg' e.symm
            have skip : g.1 / 2 ≠ u → sx_X sx_w 118 307 [some (.ref 40), some (.int (if bin then 1 else 0)), some (.int (nI a)), some (.int (nI (I + a))), some (.int (nI (I + 1 + i))), some (.int (nI (k + 1)))] [] h0 (sx_qi f) := fun hne => by
              refine ih2 (k + 1) h0 tx1 hd2' (by omega) ww ht nm ?_
              rcases hcase with ⟨c1, g', c2, c3⟩ | ⟨c1, c2⟩
              · refine Or.inl ⟨c1, g', ?_, c3⟩
                rcases List.mem_cons.mp c2 with q | q
                · rw [q] at c3; exact absurd c3 hne
                · exact q
              · exact Or.inr ⟨c1, fun g' hg' => c2 g' (List.mem_cons_of_mem _ hg')⟩
            refine g_118_307 h0 40 _ _ _ _ _ ⟨rfl, ?_⟩
            rw [(wrM ww).1.2.2.1, nI_clamp (n := k) (by omega), show h0.1 (40 + 5) k = nI g.1 from r1, show h0.1 (40 + 6) k = nI (gM g) from r2', half_nI e4, nI_clamp (n := g.1 / 2) (by omega), r17, nI_1 k]
            refine pk_le A k (fun z => (by omega)) (fun _ => ⟨rfl, rfl, ⟨rfl, va⟩, by decide, ⟨rfl, vo⟩, fun z0 => skip (fun e => ?_), fun z1 => ⟨rfl, rfl, ⟨rfl, va⟩, by decide, ⟨rfl, vo⟩, ?_⟩⟩)
            · have : h2.1 57 (g.1 / 2) = 1 := reI.mpr (by rw [e]; exact j2)
              rw [z0] at this
              exact absurd this (by decide)
            · have hrg : rch G (oS OU) (g.1 / 2) := reI.mp (reB.resolve_left z1)
              have hS : g.1 / 2 ∈ sv L ++ T := List.mem_append_right _ a0
              have Cg : C ((sv L ++ T).idxOf (g.1 / 2)) := (CR _ hS).mpr hrg
              have wb : wr I C ((sv L ++ T).idxOf (g.1 / 2)) ≤ (sv L ++ T).idxOf (g.1 / 2) := wr_le _
              have ixb := np.ixl hS
              have lenN := np.len.2
              rw [show h0.1 (40 + 24) (g.1 / 2) = nI (wr I C ((sv L ++ T).idxOf (g.1 / 2))) from nm _ (Or.inr ⟨a0, hrg⟩)]
              refine pk_en (wr I C ((sv L ++ T).idxOf (g.1 / 2))) (I + 1 + i) (fun q => skip (fun e => q (by rw [e]; exact rk))) (fun q => ⟨rfl, ⟨rfl, va⟩, rfl, ?_⟩)
              have eu : g.1 / 2 = u := by
                have hu2 : u ∈ sv L ++ T := List.mem_append_right _ uT
                have ei : (sv L ++ T).idxOf (g.1 / 2) = (sv L ++ T).idxOf u := by
                  rcases Nat.lt_trichotomy ((sv L ++ T).idxOf (g.1 / 2)) ((sv L ++ T).idxOf u) with c | c | c
                  · have := wr_lt (I := I) c (Or.inr Cg)
                    omega
                  · exact c
                  · have := wr_lt (I := I) c (Or.inr ((CR _ hu2).mpr j2))
                    omega
                have x1 := ix_get hS
                rw [ei, ix_get hu2] at x1
                exact (Option.some.inj x1).symm
              have hc1 : tx1 = tx0 := by
                rcases hcase with ⟨c1, -⟩ | ⟨-, c2⟩
                · exact c1
                · exact absurd eu (c2 g List.mem_cons_self)
              have edM : ed G (g.1 / 2) (gM g / 2) := ⟨g, hgG, rfl, Or.inl rfl⟩
              have edm : ed G (g.1 / 2) (gm g / 2) := ⟨g, hgG, rfl, Or.inr rfl⟩
              have nM := names h0 nm (gM g) a1 (fun _ => hrg.step edM)
              have nm' := names h0 nm (gm g) a2 (fun _ => hrg.step edm)
              have kM := nlI (gM g) a1 (fun _ => hrg.step edM)
              have km := nlI (gm g) a2 (fun _ => hrg.step edm)
              have lM : nl (sv L ++ T) (gM g) ≤ 2 * (sv L ++ T).idxOf (g.1 / 2) := by
                have := (np.nds hgG).2.2.2.1
                unfold nl; omega
              have lm : nl (sv L ++ T) (gm g) ≤ 2 * (sv L ++ T).idxOf (g.1 / 2) := by
                have := (np.nds hgG).2.2.2.2
                unfold nl; omega
              have w2 : wl I C (2 * (sv L ++ T).idxOf (g.1 / 2)) = 2 * (I + 1 + i) := by
                unfold wl
                rw [show 2 * (sv L ++ T).idxOf (g.1 / 2) / 2 = (sv L ++ T).idxOf (g.1 / 2) by omega, q]
                omega
              have wM2 := wl_le (I := I) lM kM
              have wm2 := wl_le (I := I) lm km
              rw [w2] at wM2 wm2
              have lt0 : tx0.length ≤ Full.length := by rw [← hF, List.length_append]; omega
              refine f_name rfl e2 nM ⟨rfl, ⟨rfl, va⟩, rfl, ?_⟩
              rw [show h0.1 (40 + 7) k = nI (gm g) from r3]
              refine f_name rfl e3 nm' ⟨rfl, ?_⟩
              rw [wlx, wlx, show (2 : Int32) * nI (I + 1 + i) = nI (2 * (I + 1 + i)) from nI_mul 2 _]
              refine f_gateText (by omega) wM2 wm2 ht (by rw [hc1]; omega) (fun h5 k5 t5 => ?_)
              refine ih2 (k + 1) h5 _ hd2' (by omega) (ww.kt k5) t5 (fun u hu => (congrFun (k5.b (by decide) (by decide)) u).trans (nm u hu)) (Or.inr ⟨?_, fun g' hg' => by rw [← eu]; exact pw2 g' hg'⟩)
              rw [hc1]
              congr 1
              unfold uF
              rw [← eu, w2]
              obtain ⟨h1', h2'⟩ := np.2.2.2.2.2.2 g hgG
              rw [h1', h2']
              rcases Nat.le_total (nl (sv L ++ T) (gM g)) (nl (sv L ++ T) (gm g)) with c | c
              · rw [Nat.max_eq_right c, Nat.min_eq_left c, Nat.max_eq_right (wl_le c kM), Nat.min_eq_left (wl_le c kM)]
              · rw [Nat.max_eq_left c, Nat.min_eq_right c, Nat.max_eq_left (wl_le c km), Nat.min_eq_right (wl_le c km)]
        refine g_118_298 h0 40 _ _ _ _ o5 (pk_lt (I + a) (I + 1 + i) (fun z => (by omega)) (fun _ => inner G 0 h0 tx0 rfl (Nat.zero_le _) ww ht nm (Or.inl ⟨rfl, ?_⟩)))
        obtain ⟨g, hg, e⟩ := np.2.2.2.1.2.2.2.2 u uT
        exact ⟨g, hg, e⟩
    -- the outputs
    have outs : ∀ (rest : List Nat) (k : Nat) (h0 : sx_H) (tx0 : List Nat) (o5 : Option Value), OU.drop k = rest → k ≤ OU.length → WW hA (h1.1 55) (h2.1 57) h0 → rT h0 tx0 → (∀ u, (u ∈ sv L ∨ (u ∈ T ∧ rch G (oS OU) u)) → h0.1 64 u = nI (wr I C ((sv L ++ T).idxOf u))) → tx0 ++ (rest.flatMap (fun x => nmb (wl I C (nl (sv L ++ T) x)) 10) ++ (fil (rch G (oS OU)) T).flatMap (uF bin I C hi lo (sv L ++ T))) = Full →
        sx_X sx_w 118 258 [some (.ref 40), some (.int (if bin then 1 else 0)), some (.int (nI a)), some (.int (nI (I + a))), some (.int (nI k)), o5] [] h0 (sx_qi f) := by
      intro rest
      induction rest with
      | nil =>
        intro k h0 tx0 o5 hd hk ww ht nm hF
        have hl := dropn hd
        refine g_118_258 h0 40 _ _ _ _ o5 ⟨rfl, ?_⟩
        rw [(wrM ww).1.2.2.2, (wrM ww).1.2.1, nI_1]
        exact pk_le O k (fun _ => ⟨rfl, gates _ 0 h0 tx0 o5 rfl (Nat.zero_le _) ww ht nm hF⟩) (fun z => (by omega))
      | cons x rest ihr =>
        intro k h0 tx0 o5 hd _ ww ht nm hF
        obtain ⟨hk, hg, hd'⟩ := dropc hd
        have hxO := List.mem_of_getElem? hg
        have hx := wO2 x hxO
        have mx := np.stn (np.2.1 x hxO)
        have rx : rch G (oS OU) (x / 2) := rch.sd ⟨x, hxO, rfl⟩
        have nx := names h0 nm x mx (fun _ => rx)
        have lt0 : tx0.length ≤ Full.length := by rw [← hF, List.length_append]; omega
        have wb : wl I C (nl (sv L ++ T) x) ≤ nl (sv L ++ T) x := wl_bd
        have nb2 := nl_lt mx
        have lN := np.len
        refine g_118_258 h0 40 _ _ _ _ o5 ⟨rfl, ?_⟩
        rw [(wrM ww).1.2.2.2, nI_clamp (n := k) (by omega), show h0.1 (40 + 4) k = nI x from (wrM ww).2.2.1 k x hg, nI_1]
        refine pk_le O k (fun z => (by omega)) (fun _ => ⟨rfl, ⟨rfl, vp_in_nI (N := 16) (by omega) (by decide)⟩, rfl, ?_⟩)
        refine f_name rfl (by omega) nx ⟨rfl, ?_⟩
        rw [wlx]
        refine f_says (b := 10) (by omega) ht (by omega) (fun h3 k3 t3 => ?_)
        refine ihr (k + 1) h3 _ o5 hd' (by omega) (ww.kt k3) t3 (fun u hu => (congrFun (k3.b (by decide) (by decide)) u).trans (nm u hu)) ?_
        rw [← hF, List.flatMap_cons, List.append_assoc, List.append_assoc]
    -- the inputs
    have inputs : ∀ (e k : Nat) (h0 : sx_H) (tx0 : List Nat) (o5 : Option Value), k + e = I → WW hA (h1.1 55) (h2.1 57) h0 → rT h0 tx0 → (∀ u, (u ∈ sv L ∨ (u ∈ T ∧ rch G (oS OU) u)) → h0.1 64 u = nI (wr I C ((sv L ++ T).idxOf u))) → tx0 ++ (cond bin [] ((List.range' k e).flatMap (fun k => nmb (2 * (k + 1)) 10)) ++ (OU.flatMap (fun x => nmb (wl I C (nl (sv L ++ T) x)) 10) ++ (fil (rch G (oS OU)) T).flatMap (uF bin I C hi lo (sv L ++ T)))) = Full →
        sx_X sx_w 118 224 [some (.ref 40), some (.int (if bin then 1 else 0)), some (.int (nI a)), some (.int (nI (I + a))), some (.int (nI k)), o5] [] h0 (sx_qi f) := by
      intro e
      induction e with
      | zero =>
        intro k h0 tx0 o5 hk ww ht nm hF
        refine g_118_224 h0 40 _ _ _ _ o5 ⟨rfl, ?_⟩
        rw [(wrM ww).1.2.1]
        refine pk_le I k (fun _ => outs OU 0 h0 tx0 o5 rfl (Nat.zero_le _) ww ht nm ?_) (fun z => (by omega))
        rw [← hF]
        cases bin <;> rfl
      | succ e ih =>
        intro k h0 tx0 o5 hk ww ht nm hF
        have lt0 : tx0.length ≤ Full.length := by rw [← hF, List.length_append]; omega
        refine g_118_224 h0 40 _ _ _ _ o5 ⟨rfl, ?_⟩
        rw [(wrM ww).1.2.1]
        refine pk_le I k (fun z => (by omega)) (fun _ => ⟨fun hb => ?_, fun hb => ⟨rfl, ?_⟩⟩)
        · cases bin with
          | false => exact absurd rfl hb
          | true => exact outs OU 0 h0 tx0 o5 rfl (Nat.zero_le _) ww ht nm hF
        · cases bin with
          | true => exact absurd hb (by decide)
          | false =>
            rw [show (2 : Int32) * nI k + 2 = nI (2 * (k + 1)) by rw [show (2 : Int32) * nI k = nI (2 * k) from nI_mul 2 k]; exact nI_add (2 * k) 2, nI_1]
            refine f_says (b := 10) (by omega) ht (by omega) (fun h3 k3 t3 => ?_)
            refine ih (k + 1) h3 _ o5 (by omega) (ww.kt k3) t3 (fun u hu => (congrFun (k3.b (by decide) (by decide)) u).trans (nm u hu)) ?_
            rw [← hF]
            show _ ++ _ ++ ((List.range' (k + 1) e).flatMap _ ++ _) = _ ++ ((List.range' k (e + 1)).flatMap _ ++ _)
            rw [rg_cons, List.flatMap_cons, List.append_assoc, List.append_assoc]
    -- the first line
    have first : ∀ (h0 : sx_H) (d : Nat) (o5 : Option Value), WW hA (h1.1 55) (h2.1 57) h0 → rT h0 [] → (∀ u, (u ∈ sv L ∨ (u ∈ T ∧ rch G (oS OU) u)) → h0.1 64 u = nI (wr I C ((sv L ++ T).idxOf u))) →
        sx_X sx_w 118 66 [some (.ref 40), some (.int (if bin then 1 else 0)), some (.int (nI a)), some (.int (nI (I + a))), some (.int (nI d)), o5] [] h0 (sx_qi f) := by
      intro h0 d o5 ww ht nm
      refine g_118_66 h0 40 _ _ _ _ o5 ⟨rfl, ?_⟩
      rw [(wrM ww).1.2.1, nI_add]
      refine pk_le (I + a) (I + a) (fun _ => ⟨rfl, f_put (x := 97) ht (by decide) (fun h1' k1 t1 => ?_)⟩) (fun z => absurd z (Nat.lt_irrefl _))
      have n1 := nmb_len (I + a) 32
      have n2 := nmb_len I 32
      have n3 := nmb_len 0 32
      have n4 := nmb_len O 32
      cases bin with
      | false =>
        refine ⟨fun _ => ⟨rfl, ?_⟩, fun q => absurd rfl q⟩
        refine f_put (x := 97) t1 (by decide) (fun h2' k2 t2 => ⟨rfl, f_put (x := 103) t2 (by decide) (fun h3 k3 t3 => ⟨rfl, f_put (x := 32) t3 (by decide) (fun h4 k4 t4 => ⟨rfl, f_says (b := 32) (by omega) t4 (by decide) (fun h5 k5 t5 => ⟨rfl, rfl, ?_⟩)⟩)⟩)⟩)
        have w5 := (((((ww.kt k1).kt k2).kt k3).kt k4).kt k5)
        rw [(wrM w5).1.2.1]
        refine f_says (b := 32) (by omega) t5 (by simp only [List.length_append, List.length_cons, List.length_nil]; omega) (fun h6 k6 t6 => ⟨rfl, f_says (v := 0) (b := 32) (by decide) t6 (by simp only [List.length_append, List.length_cons, List.length_nil]; omega) (fun h7 k7 t7 => ⟨rfl, rfl, ?_⟩)⟩)
        have w7 := (w5.kt k6).kt k7
        rw [(wrM w7).1.2.2.2]
        refine f_says (b := 32) (by omega) t7 (by simp only [List.length_append, List.length_cons, List.length_nil]; omega) (fun h8 k8 t8 => ⟨rfl, f_says (b := 10) (by omega) t8 (by simp only [List.length_append, List.length_cons, List.length_nil]; omega) (fun h9 k9 t9 => ?_)⟩)
        refine inputs I 0 h9 _ o5 (by omega) ((w7.kt k8).kt k9) t9 (fun u hu => (congrFun (((((((((k1.tr k2).tr k3).tr k4).tr k5).tr k6).tr k7).tr k8).tr k9).b (by decide) (by decide)) u).trans (nm u hu)) ?_
        rw [← eF]
        simp [ltx, itx, otx, List.range_eq_range']
      | true =>
        refine ⟨fun q => absurd q (by decide), fun _ => ⟨rfl, ?_⟩⟩
        refine f_put (x := 105) t1 (by decide) (fun h2' k2 t2 => ⟨rfl, f_put (x := 103) t2 (by decide) (fun h3 k3 t3 => ⟨rfl, f_put (x := 32) t3 (by decide) (fun h4 k4 t4 => ⟨rfl, f_says (b := 32) (by omega) t4 (by decide) (fun h5 k5 t5 => ⟨rfl, rfl, ?_⟩)⟩)⟩)⟩)
        have w5 := (((((ww.kt k1).kt k2).kt k3).kt k4).kt k5)
        rw [(wrM w5).1.2.1]
        refine f_says (b := 32) (by omega) t5 (by simp only [List.length_append, List.length_cons, List.length_nil]; omega) (fun h6 k6 t6 => ⟨rfl, f_says (v := 0) (b := 32) (by decide) t6 (by simp only [List.length_append, List.length_cons, List.length_nil]; omega) (fun h7 k7 t7 => ⟨rfl, rfl, ?_⟩)⟩)
        have w7 := (w5.kt k6).kt k7
        rw [(wrM w7).1.2.2.2]
        refine f_says (b := 32) (by omega) t7 (by simp only [List.length_append, List.length_cons, List.length_nil]; omega) (fun h8 k8 t8 => ⟨rfl, f_says (b := 10) (by omega) t8 (by simp only [List.length_append, List.length_cons, List.length_nil]; omega) (fun h9 k9 t9 => ?_)⟩)
        refine inputs I 0 h9 _ o5 (by omega) ((w7.kt k8).kt k9) t9 (fun u hu => (congrFun (((((((((k1.tr k2).tr k3).tr k4).tr k5).tr k6).tr k7).tr k8).tr k9).b (by decide) (by decide)) u).trans (nm u hu)) ?_
        rw [← eF]
        simp [ltx, itx, otx, List.range_eq_range']
    -- the numbers, by depth
    have rounds : ∀ (e d : Nat) (h0 : sx_H) (o5 : Option Value), d + e = 316 → 1 ≤ d → WW hA (h1.1 55) (h2.1 57) h0 → rT h0 [] → (∀ u, u ∈ sv L → h0.1 64 u = nI (wr I C ((sv L ++ T).idxOf u))) → (∀ u, u ∈ T → rch G (oS OU) u → dp u < d → h0.1 64 u = nI (wr I C ((sv L ++ T).idxOf u))) →
        sx_X sx_w 118 66 [some (.ref 40), some (.int (if bin then 1 else 0)), some (.int (nI a)), some (.int (nI (I + nb G OU T dp d 1))), some (.int (nI d)), o5] [] h0 (sx_qi f) := by
      intro e
      induction e with
      | zero =>
        intro d h0 o5 hd h1d ww ht nm1 nm2
        have q := np.nbB (d := d) (by omega)
        have q2 := nb_le (G := G) (OU := OU) (T := T) (dp := dp) (d := d) (v := 1)
        rw [show nb G OU T dp d 1 = a by omega]
        refine first h0 d o5 ww ht (fun u hu => ?_)
        rcases hu with hu | ⟨hu, hr⟩
        · exact nm1 u hu
        · exact nm2 u hu hr (nb_all q (fun a ha => (Tg a ha).1) hu hr)
      | succ e ih =>
        intro d h0 o5 hd h1d ww ht nm1 nm2
        by_cases q : cnP (rch G (oS OU)) T ≤ nb G OU T dp d 1
        · have q2 := nb_le (G := G) (OU := OU) (T := T) (dp := dp) (d := d) (v := 1)
          rw [show nb G OU T dp d 1 = a by omega]
          refine first h0 d o5 ww ht (fun u hu => ?_)
          rcases hu with hu | ⟨hu, hr⟩
          · exact nm1 u hu
          · exact nm2 u hu hr (nb_all q (fun a ha => (Tg a ha).1) hu hr)
        · have inner : ∀ (e2 v : Nat) (h0 : sx_H), v + e2 = M + 1 → 1 ≤ v → WW hA (h1.1 55) (h2.1 57) h0 → rT h0 [] → (∀ u, u ∈ sv L → h0.1 64 u = nI (wr I C ((sv L ++ T).idxOf u))) → (∀ u, u ∈ T → rch G (oS OU) u → (dp u < d ∨ (dp u = d ∧ u < v)) → h0.1 64 u = nI (wr I C ((sv L ++ T).idxOf u))) →
              sx_X sx_w 118 79 [some (.ref 40), some (.int (if bin then 1 else 0)), some (.int (nI a)), some (.int (nI (I + nb G OU T dp d v))), some (.int (nI d)), some (.int (nI v))] [] h0 (sx_qi f) := by
            intro e2
            induction e2 with
            | zero =>
              intro v h0 hv h1v ww ht nm1 nm2
              have ev : v = M + 1 := by omega
              subst ev
              refine g_118_79 h0 40 _ _ _ _ _ ⟨rfl, ?_⟩
              rw [(wrM ww).1.1, nI_1]
              refine pk_lt M (M + 1) (fun _ => ?_) (fun z => (by omega))
              rw [np.nbs]
              exact ih (d + 1) h0 _ (by omega) (by omega) ww ht nm1 (fun u hu hr hl => nm2 u hu hr (by have := (Tg u hu).2; omega))
            | succ e2 ih2 =>
              intro v h0 hv h1v ww ht nm1 nm2
              have vv : vp_in (nI v) 1001 := vp_in_nI (by omega) (by decide)
              have kl := kdv_le L G v
              have dl := np.dpB v
              have nbl := nb_le (G := G) (OU := OU) (T := T) (dp := dp) (d := d) (v := v)
              have reB := hB v (by omega)
              have reI := hre v (by omega)
              have skip : (v ∈ T → rch G (oS OU) v → dp v ≠ d) → sx_X sx_w 118 79 [some (.ref 40), some (.int (if bin then 1 else 0)), some (.int (nI a)), some (.int (nI (I + nb G OU T dp d v))), some (.int (nI d)), some (.int (nI (v + 1)))] [] h0 (sx_qi f) := fun hn => by
                rw [← nb_n hn]
                refine ih2 (v + 1) h0 (by omega) (by omega) ww ht nm1 (fun u hu hr hl => nm2 u hu hr ?_)
                by_cases c : u = v
                · rw [c] at hu hr hl ⊢
                  have := hn hu hr
                  omega
                · omega
              refine g_118_79 h0 40 _ _ _ _ _ ⟨rfl, ?_⟩
              rw [(wrM ww).1.1, nI_clamp (n := v) (by omega), show h0.1 (40 + 8) v = nI (kdv L G v) from (wrM ww).2.2.2.2 v (by omega), show h0.1 (40 + 17) v = h2.1 57 v from congrFun ww.2.2.2 v, show h0.1 (40 + 15) v = nI (dp v) from (congrFun ww.2.2.1 v).trans (hdep v (by omega)), nI_1 v, nI_1 (I + nb G OU T dp d v)]
              refine pk_lt M v (fun z => (by omega)) (fun _ => ⟨rfl, ⟨rfl, vv⟩, pk_en (y := 2) (kdv L G v) 2 (fun z => skip (fun hT _ => ?_)) (fun z => ⟨rfl, ⟨rfl, vv⟩, fun z0 => skip (fun _ hr => ?_), fun z1 => ⟨rfl, ⟨rfl, vv⟩, pk_eq (dp v) d (fun y => ⟨rfl, ⟨rfl, rfl, vv⟩, ?_⟩) (fun y => skip (fun _ _ => y))⟩⟩)⟩)
              · obtain ⟨g, hg, e⟩ := np.2.2.2.1.2.2.2.2 v hT
                exact absurd ((kdv_2 np.1).mpr ⟨g, hg, e⟩) z
              · rw [reI.mpr hr] at z0
                exact absurd z0 (by decide)
              · obtain ⟨g, hg, e⟩ := (kdv_2 np.1).mp z
                have vT : v ∈ T := by rw [← e]; exact np.2.2.2.2.1 g hg
                have vr : rch G (oS OU) v := reI.mp (reB.resolve_left z1)
                obtain ⟨j, hj, ej⟩ := List.mem_iff_getElem.mp vT
                have ej' : T[j]? = some v := by rw [← ej]; exact List.getElem?_eq_getElem hj
                have rk : wr I C ((sv L ++ T).idxOf v) = I + nb G OU T dp d v + 1 := by
                  rw [← eC, np.rank ej', ← np.nbr ej', y]
                  omega
                have ny := nb_y (G := G) (OU := OU) (dp := dp) ((List.nodup_append.mp np.2.2.2.1.1).2.1) vT vr y
                have e64 : ∀ u, sx_u h0.1 64 v (nI (I + nb G OU T dp d v + 1)) 64 u = if u = v then nI (I + nb G OU T dp d v + 1) else h0.1 64 u := fun u => by
                  rw [sx_u_eq]
                  by_cases c : u = v
                  · rw [if_pos c, c, va_up_self]
                  · rw [if_neg c, va_up_ne _ _ c]
                rw [show I + nb G OU T dp d v + 1 = I + nb G OU T dp d (v + 1) by omega] at e64 ⊢
                refine ih2 (v + 1) _ (by omega) (by omega) (ww.u v _) (rT_u64 ht) (fun u hu => (e64 u).trans ?_) (fun u hu hr hl => (e64 u).trans ?_)
                · rw [if_neg (fun c => (sv_gate np.1 hg).1 (by rw [e, ← c]; exact hu))]
                  exact nm1 u hu
                · by_cases c : u = v
                  · rw [if_pos c, c, rk, ny]
                    rfl
                  · rw [if_neg c]
                    exact nm2 u hu hr (by omega)
          have nbl := nb_le (G := G) (OU := OU) (T := T) (dp := dp) (d := d) (v := 1)
          refine g_118_66 h0 40 _ _ _ _ o5 ⟨rfl, ?_⟩
          rw [(wrM ww).1.2.1, nI_add]
          exact pk_le (I + a) (I + nb G OU T dp d 1) (fun z => (by omega)) (fun _ => inner M 1 h0 (by omega) (Nat.le_refl _) ww ht nm1 (fun u hu hr hl => nm2 u hu hr (by have := (Tg u hu).1; omega)))
    have inpN : ∀ (rest : List Nat) (k : Nat) (h0 : sx_H), L.drop k = rest → k ≤ L.length → WW hA (h1.1 55) (h2.1 57) h0 → rT h0 [] → h0.1 64 0 = 0 → (∀ (j x : Nat), j < k → L[j]? = some x → h0.1 64 (x / 2) = nI (j + 1)) →
        sx_X sx_w 118 28 [some (.ref 40), some (.int (if bin then 1 else 0)), some (.int (nI a)), some (.int (nI k)), none, none] [] h0 (sx_qi f) := by
      intro rest
      induction rest with
      | nil =>
        intro k h0 hd hk ww ht h64 hz
        have hl := dropn hd
        refine g_118_28 h0 40 _ _ _ ⟨rfl, ?_⟩
        rw [(wrM ww).1.2.1]
        refine pk_le I k (fun _ => ⟨rfl, ?_⟩) (fun z => (by omega))
        have st := rounds 315 1 h0 none (by decide) (Nat.le_refl _) ww ht (fun u hu => ?_) (fun u hu hr hl => ?_)
        · rw [np.nb1] at st
          exact st
        · rcases List.mem_cons.mp hu with q | q
          · rw [q, ix_of (n := 0) np.2.2.2.1.1 rfl, h64]
            unfold wr
            rw [if_pos (Nat.zero_le _)]
            rfl
          · obtain ⟨x, hx, e⟩ := List.mem_map.mp q
            obtain ⟨j, hj, ej⟩ := List.mem_iff_getElem.mp hx
            have ej' : L[j]? = some x := by rw [← ej]; exact List.getElem?_eq_getElem hj
            have es : (sv L ++ T)[j + 1]? = some u := by
              rw [List.getElem?_append_left (by rw [sv_len]; omega)]
              unfold sv
              rw [List.getElem?_cons_succ, List.getElem?_map, ej']
              exact congrArg some e
            rw [ix_of np.2.2.2.1.1 es, ← e, hz j x (by omega) ej']
            unfold wr
            rw [if_pos (by omega)]
        · obtain ⟨g, hg, e⟩ := np.2.2.2.1.2.2.2.2 u hu
          have := np.dq g hg
          rw [e] at this
          omega
      | cons x rest ihr =>
        intro k h0 hd _ ww ht h64 hz
        obtain ⟨hk, hg, hd'⟩ := dropc hd
        have hx := wL.1 x (List.mem_of_getElem? hg)
        refine g_118_28 h0 40 _ _ _ ⟨rfl, ?_⟩
        rw [(wrM ww).1.2.1, nI_clamp (n := k) (by omega), show h0.1 (40 + 3) k = nI x from (wrM ww).2.1 k x hg, half_nI (by omega), nI_clamp (n := x / 2) (by omega), nI_1]
        refine pk_le I k (fun z => (by omega)) (fun _ => ⟨rfl, rfl, ⟨rfl, vp_in_nI (N := 14) (by omega) (by decide)⟩, by decide, ⟨rfl, rfl, vp_in_nI (N := 1001) (by omega) (by decide)⟩, ?_⟩)
        refine ihr (k + 1) _ hd' (by omega) (ww.u (x / 2) _) (rT_u64 ht) ?_ (fun j y hj hy => ?_)
        · show sx_u h0.1 64 (x / 2) _ 64 0 = 0
          rw [sx_u_eq, va_up_ne _ _ (by omega)]; exact h64
        · show sx_u h0.1 64 (x / 2) _ 64 (y / 2) = _
          rw [sx_u_eq]
          by_cases c : j = k
          · rw [c, hg] at hy
            cases hy
            rw [va_up_self, c]
          · have hj' : j < k := by omega
            have ne : y / 2 ≠ x / 2 := fun e => by
              obtain ⟨a1, a2⟩ := List.getElem?_eq_some_iff.mp hy
              obtain ⟨b1, b2⟩ := List.getElem?_eq_some_iff.mp hg
              exact absurd (by rw [a2, b2]; exact e) (List.pairwise_iff_getElem.mp wL.2 _ _ a1 b1 hj')
            rw [va_up_ne _ _ ne]
            exact hz j y hj' hy
    refine inpN L 0 _ rfl (Nat.zero_le _) (kq2.u 0 0) ⟨?_, Nat.zero_le _, fun i hi => absurd hi (Nat.not_lt_zero _)⟩ ?_ (fun j x hj => absurd hj (Nat.not_lt_zero _))
    · show sx_u h2.1 64 0 0 40 4 = nI 0
      rw [sx_u_ne (by decide), k2.i (by unfold r57; omega), k1.i (by omega)]
      exact a4
    · show sx_u h2.1 64 0 0 64 0 = 0
      rw [sx_u_eq, va_up_self]
  exact g_118_0 h 40 _ ⟨⟨rfl, rfl⟩, ⟨rfl, rfl⟩, rfl, by rw [eA]; exact g0⟩
