/-! law: what it does to the state -/
def stTape (A : St) : St := (A.1, A.2.1, (0, A.2.2.1.2), A.2.2.2)
def stFault (A : St) (v : Int32) : St := (A.1, A.2.1, A.2.2.1, A.2.2.2.1, A.2.2.2.2.1, (v, A.2.2.2.2.2.2))
def addLw (w : Wd) (l : Lw) : Wd := (w.1, w.2.1, w.2.2.1, (w.2.2.2.1.1 + 1, fun k => if k = w.2.2.2.1.1 then l else w.2.2.2.1.2 k), w.2.2.2.2)
def bytF (T : Nat × Sc) (j : Nat) : Nat := if j < T.1 then (T.2 j).toNatClampNeg else 0
theorem bytF_ok {T : Nat × Sc} (h : okT T) : (∀ j, j < T.1 → T.2 j = nI (bytF T j)) ∧ ∀ j, bytF T j < 256 := by
  refine ⟨fun j hj => ?_, fun j => ?_⟩
  · obtain ⟨x, hx, e⟩ := h.2 j hj
    unfold bytF; rw [if_pos hj, e, nI_clamp (by omega)]
  · unfold bytF
    split
    · rename_i hj
      obtain ⟨x, hx, e⟩ := h.2 j hj
      rw [e, nI_clamp (by omega)]; exact hx
    · omega
def txtR (q : Bool) (T : Nat × Sc) : Nat ⊕ List GC := pText q (tkF (bytF T) T.1) 12 [] 0 0
def sp_law (A : St) : Int32 × St := if 6 ≤ A.1.2.2.2.1.1 then rfs 3 (stTape A) else match txtR false A.2.2.1 with
  | .inl e => rfs 4 (stFault (stTape A) (nI (plF (bytF A.2.2.1) A.2.2.1.1 e)))
  | .inr gs => (nI A.1.2.2.2.1.1, stS (stFault (stTape (stW A (addLw A.1 (lawW gs)))) (-1)) (nI 0))
/-- the class's clauses, as a law's -/
theorem law_plc {gs : List GC} (hg : ∀ g, g ∈ gs → gOK false g) (hl : (cA gs).length ≤ 400) {rw : Nat → Int32} (hr : ∀ j g, gs[j]? = some g → ∀ k, k < 5 → rw (j * 5 + k) = rwC g (cA (gs.take j)).length k) : ∀ i, i < gs.length → rw (i * 5) = nI ((lawW gs).1 i).1 ∧ ((lawW gs).1 i).1 < 4 ∧ plc (fun k => (cA gs).getD k (0, 0)) (cA gs).length 10 (rw (i * 5 + 4)) ((lawW gs).1 i).2.1 ∧ plc (fun k => (cA gs).getD k (0, 0)) (cA gs).length 10 (rw (i * 5 + 2)) ((lawW gs).1 i).2.2 ∧ (((lawW gs).1 i).1 ≠ 3 → rw (i * 5 + 2) ≠ -1) := by
  intro i hi
  have hgi : gs[i]? = some gs[i] := List.getElem?_eq_getElem hi
  generalize gs[i] = g at hgi
  have ok := hg g (List.mem_of_getElem? hgi)
  have e : (lawW gs).1 i = clO g := by show (match gs[i]? with | none => _ | some g => clO g) = _; rw [hgi]
  obtain ⟨R, hR⟩ := cF_at gcC gs.length gs rfl i g hgi
  have hR : cA gs = cA (gs.take i) ++ (gcC g (cA (gs.take i)).length ++ R) := hR
  have hll := congrArg List.length hR
  rw [List.length_append, List.length_append] at hll
  have sg := sgm_of hR
  generalize hb : (cA (gs.take i)).length = n at sg hll
  rw [hb] at hR
  obtain ⟨o1, o2, o3, o4, o5, o6, o7, o8⟩ := ok
  have hs0 := o8 rfl
  have hgc : gcC g n = sE g.2.2.1 ++ sT g.2.2.2.2 (n + (sE g.2.2.1).length) := by
    unfold gcC; rw [hs0]; rfl
  rw [hgc] at sg hll
  rw [List.length_append] at hll
  obtain ⟨sg1, sg2⟩ := sgm_app sg
  have r0 := hr i g hgi 0 (by omega)
  have r2 := hr i g hgi 2 (by omega)
  have r4 := hr i g hgi 4 (by omega)
  rw [hb] at r0 r2 r4
  have r0 : rw (i * 5) = nI g.1 := r0
  have r2 : rw (i * 5 + 2) = ixE g.2.2.1 n := r2
  have r4 : rw (i * 5 + 4) = ixT g.2.2.2.2 (n + (sE g.2.2.1).length) := by
    have : rwC g n 4 = ixT g.2.2.2.2 (n + (sE g.2.2.1).length + (sE g.2.2.2.1).length) := rfl
    rw [r4, this, hs0]; rfl
  rw [e]
  refine ⟨r0, o1, ?_, ?_, fun h3 => ?_⟩
  · rw [r4]
    show plc _ _ 10 _ (denT g.2.2.2.2)
    cases ht : g.2.2.2.2 with
    | none => exact Or.inl ⟨rfl, fun w => rfl⟩
    | some t =>
      obtain ⟨L, t1, t2⟩ := o5 t ht
      rw [ht] at sg2 hll
      have hlen : (sT (some t) (n + (sE g.2.2.1).length)).length = (t.1 (n + (sE g.2.2.1).length)).length + 1 := by show (_ ++ [(0, 0)]).length = _; rw [List.length_append, List.length_singleton]
      rw [hlen] at hll
      refine Or.inr ⟨n + (sE g.2.2.1).length, by omega, rfl, fun w => ev_of (t1.1 _) t2 sg2 (by omega) w, fun w v hv => ?_⟩
      rcases t1.2.2.2.1 w v hv with z | z <;> rw [z] <;> decide
  · rw [r2]
    show plc _ _ 10 _ (denE g.2.2.1)
    cases hx : g.2.2.1 with
    | none => exact Or.inl ⟨rfl, fun w => rfl⟩
    | some x =>
      obtain ⟨L, t1, t2⟩ := o3 x hx
      rw [hx] at sg1 hll
      have hlen : (sE (some x)).length = x.1.length + 1 := by show (_ ++ [(0, 0)]).length = _; rw [List.length_append, List.length_singleton]
      rw [hlen] at hll
      exact Or.inr ⟨n, by omega, rfl, fun w => ev_of (t1.1 _) t2 sg1 (by omega) w, fun w v hv => t1.2.2.2.1 w v hv⟩
  · rw [r2]
    cases hx : g.2.2.1 with
    | none => exact absurd (o6.mpr hx) h3
    | some x => exact nI_m1 (by omega)
/-- the class's code, as a law's -/
theorem law_cd {gs : List GC} (hg : ∀ g, g ∈ gs → gOK false g) (hl : (cA gs).length ≤ 400) : ∀ i, i < (cA gs).length → ((cA gs).getD i (0, 0)).1 < 16 ∧ ((cA gs).getD i (0, 0)).2 < 1000000 := by
  have key : ∀ (m : Nat) (hs : List GC), hs.length = m → (∀ g, g ∈ hs → gOK false g) → (cA hs).length ≤ 400 → ∀ x, x ∈ cA hs → x.1 < 16 ∧ x.2 < 1000000 := by
    intro m
    induction m with
    | zero => intro hs h _ _ x hx; rw [List.length_eq_zero_iff.mp h] at hx; cases hx
    | succ m ih =>
      intro hs h hg hl x hx
      rcases List.eq_nil_or_concat hs with e | ⟨ts, g, e⟩
      · rw [e] at h; cases h
      · have e : hs = ts ++ [g] := by rw [e, List.concat_eq_append]
        subst e
        rw [cA_snoc] at hx hl
        rw [List.length_append] at hl h
        rcases List.mem_append.mp hx with hx | hx
        · exact ih ts (by rw [List.length_singleton] at h; omega) (fun g hg2 => hg g (by simp [hg2])) (by omega) x hx
        · obtain ⟨o1, o2, o3, o4, o5, o6, o7, o8⟩ := hg g (by simp)
          have sEm : ∀ (y : Option Ex), (∀ e, y = some e → oE1 false e) → ∀ z, z ∈ sE y → z.1 < 16 ∧ z.2 < 1000000 := by
            intro y hy z hz
            cases y with
            | none => cases hz
            | some e =>
              obtain ⟨L, t1, t2⟩ := hy e rfl
              rcases List.mem_append.mp hz with hz | hz
              · have := t1.2.2.2.2.1 z hz; exact ⟨this.1, by omega⟩
              · rw [List.mem_singleton.mp hz]; exact ⟨by decide, by decide⟩
          unfold gcC at hx hl
          rcases List.mem_append.mp hx with hx | hx
          · exact sEm _ o3 x hx
          · rcases List.mem_append.mp hx with hx | hx
            · exact sEm _ o4 x hx
            · rw [List.length_append, List.length_append] at hl
              cases ht : g.2.2.2.2 with
              | none => rw [ht] at hx; cases hx
              | some t =>
                rw [ht] at hx hl
                obtain ⟨L, t1, t2⟩ := o5 t ht
                have hl2 : (sT (some t) ((cA ts).length + (sE g.2.2.1).length + (sE g.2.2.2.1).length)).length = (t.1 ((cA ts).length + (sE g.2.2.1).length + (sE g.2.2.2.1).length)).length + 1 := by show (_ ++ [(0, 0)]).length = _; rw [List.length_append, List.length_singleton]
                rw [hl2] at hl
                rcases List.mem_append.mp hx with hx | hx
                · have := t1.2.2.2.2.1 _ x hx; exact ⟨this.1, by omega⟩
                · rw [List.mem_singleton.mp hx]; exact ⟨by decide, by decide⟩
  intro i hi
  have : (cA gs).getD i (0, 0) ∈ cA gs := by
    rw [List.getD_eq_getElem?_getD, List.getElem?_eq_getElem hi]; exact List.getElem_mem hi
  exact key gs.length gs rfl hg hl _ this
theorem relC_rd {A : St} {im lw : List (Option Nat)} {tl : List XC} {iv iv' : Nat → Nat → Int32} {v : Int32} (h : RelC A im lw tl iv) (hf : fr [9, 11, 12, 13, 14, 15, 16] iv iv') (h9 : iv' 9 1 = nI 0) (h11 : iv' 11 8 = v) : RelC (stFault (stTape A) v) im lw tl iv' := by
  obtain ⟨h0, h1, h2, h3, h4, h5, h6⟩ := h
  have z : ∀ a, (a < 9 ∨ 17 ≤ a) → iv' a = iv a := fun a ha => hf a (by simp; omega)
  refine ⟨h0, h1.fr (z _ (by omega)) (z _ (by omega)) (z _ (by omega)) (z _ (by omega)) (z _ (by omega)) (fun x hx => z x (Or.inr (by have := hx.1; omega))), h2.fr (fun a ha => z a (by omega)), ⟨h9, fun j hj => by have hj : j < 0 := hj; omega⟩, h4.fr (z _ (by omega)) (z _ (by omega)) (z _ (by omega)), by rw [z 41 (by omega)]; exact h5, ?_⟩
  obtain ⟨m1, m2, m3, m4, m5⟩ := h6
  exact ⟨h11, by rw [z 0 (by omega)]; exact m2, by rw [z 0 (by omega)]; exact m3, by rw [z 0 (by omega)]; exact m4, by rw [z 45 (by omega)]; exact m5⟩
theorem relC_tp {A : St} {im lw : List (Option Nat)} {tl : List XC} {iv : Nat → Nat → Int32} (h : RelC A im lw tl iv) : RelC (stTape A) im lw tl (upd2 iv 9 1 (nI 0)) := by
  obtain ⟨h0, h1, h2, h3, h4, h5, h6⟩ := h
  have z : ∀ a, a ≠ 9 → (upd2 iv 9 1 (nI 0)) a = iv a := fun a ha => upd2_off _ _ _ _ ha
  refine ⟨h0, h1.fr (z _ (by omega)) (z _ (by omega)) (z _ (by omega)) (z _ (by omega)) (z _ (by omega)) (fun x hx => z x (by have := hx.1; omega)), h2.fr (fun a ha => z a (by omega)), ⟨upd2_self _ _ _ _, fun j hj => by have hj : j < 0 := hj; omega⟩, h4.fr (z _ (by omega)) (z _ (by omega)) (z _ (by omega)), by rw [z 41 (by omega)]; exact h5, ?_⟩
  unfold miscC
  rw [z 11 (by omega), z 0 (by omega), z 45 (by omega)]
  exact h6
