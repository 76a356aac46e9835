/-! orders: the pure layer, and the program of the class -/
def plq (cd : Nat → Nat × Nat) (sz nw : Nat) (x : Int32) (f : (Nat → Int32) → Option Int64) : Prop := ∃ i, i < 2000 ∧ x = nI i ∧ (∀ w, f w = ev cd sz w nw sz i []) ∧ ∀ w v, f w = some v → v.toInt32.toInt64 = v
def oHold (g : GC) (w : Nat → Int32) : Bool := match denT g.2.2.2.2 w with
  | none => false
  | some v => decide (¬ v = lN 0)
def oAct (g : GC) (w : Nat → Int32) (A : St) : Int32 × St := if g.1 = 3 then a_pass A else match denE g.2.2.1 w with
  | none => (rcode 2, A)
  | some x => match denE g.2.2.2.1 w with
    | none => (rcode 2, A)
    | some y => if g.1 = 1 then a_feed x.toInt32 y.toInt32 A else if g.1 = 2 then a_move x.toInt32 y.toInt32 A else a_crack x.toInt32 y.toInt32 A
def oOne (g : GC) (s : St × Nat × Int32) : Option (St × Nat × Int32) := if oHold g (oW s.1.1.1 (nI s.2.1) s.2.2) = true then (if (oAct g (oW s.1.1.1 (nI s.2.1) s.2.2) s.1).1 < 0 then none else some ((oAct g (oW s.1.1.1 (nI s.2.1) s.2.2) s.1).2, s.2.1 + 1, if g.1 = 0 then (oAct g (oW s.1.1.1 (nI s.2.1) s.2.2) s.1).1 else s.2.2)) else some s
def oTimes (g : GC) : Nat → St × Nat × Int32 → Option (St × Nat × Int32)
  | 0, s => some s
  | m + 1, s => match oOne g s with
    | none => none
    | some s' => oTimes g m s'
def oAll : List GC → Nat → St × Nat × Int32 → Nat ⊕ (St × Nat × Int32)
  | [], _, s => .inr s
  | g :: gs, i, s => match oTimes g g.2.1 s with
    | none => .inl i
    | some s' => oAll gs (i + 1) s'
def stStop (A : St) (v : Int32) : St := (A.1, A.2.1, A.2.2.1, A.2.2.2.1, A.2.2.2.2.1, (A.2.2.2.2.2.1, v, A.2.2.2.2.2.2.2))
theorem oAct_ok (g : GC) (w : Nat → Int32) : actOK (oAct g w) := by
  intro A ho
  unfold oAct
  by_cases h3 : g.1 = 3
  · rw [if_pos h3]; exact K_pass A ho
  · rw [if_neg h3]
    cases denE g.2.2.1 w with
    | none => exact Or.inl ⟨2, by decide, rfl⟩
    | some x =>
      cases denE g.2.2.2.1 w with
      | none => exact Or.inl ⟨2, by decide, rfl⟩
      | some y =>
        simp only
        by_cases h1 : g.1 = 1
        · rw [if_pos h1]; exact K_feed _ _ A ho
        rw [if_neg h1]
        by_cases h2 : g.1 = 2
        · rw [if_pos h2]; exact K_move _ _ A ho
        rw [if_neg h2]; exact K_crack _ _ A ho
theorem ord_plc {gs : List GC} (hg : ∀ g, g ∈ gs → gOK true g) (hl : (cA gs).length ≤ 400) {rw : Nat → Int32} (hr : ∀ j g, gs[j]? = some g → ∀ k, k < 5 → rw (j * 5 + k) = rwC g (cA (gs.take j)).length k) : ∀ i g, gs[i]? = some g → rw (i * 5 + 0) = nI g.1 ∧ rw (i * 5 + 1) = nI g.2.1 ∧ plc (fun k => (cA gs).getD k (0, 0)) (cA gs).length 23 (rw (i * 5 + 4)) (denT g.2.2.2.2) ∧ (g.1 ≠ 3 → plq (fun k => (cA gs).getD k (0, 0)) (cA gs).length 23 (rw (i * 5 + 2)) (denE g.2.2.1) ∧ plq (fun k => (cA gs).getD k (0, 0)) (cA gs).length 23 (rw (i * 5 + 3)) (denE g.2.2.2.1)) := by
  intro i g hgi
  have ok := hg g (List.mem_of_getElem? hgi)
  obtain ⟨R, hR⟩ := cF_at gcC gs.length gs rfl i g hgi
  have hR : cA gs = cA (gs.take i) ++ (gcC g (cA (gs.take i)).length ++ R) := hR
  have hll := congrArg List.length hR
  rw [List.length_append, List.length_append] at hll
  have sg := sgm_of hR
  generalize hb : (cA (gs.take i)).length = n at sg hll
  rw [hb] at hR
  obtain ⟨o1, o2, o3, o4, o5, o6, o7, o8⟩ := ok
  unfold gcC at sg hll
  rw [List.length_append, List.length_append] at hll
  obtain ⟨sg1, sg2⟩ := sgm_app sg
  obtain ⟨sg2, sg3⟩ := sgm_app sg2
  have r0 := hr i g hgi 0 (by omega)
  have r1 := hr i g hgi 1 (by omega)
  have r2 := hr i g hgi 2 (by omega)
  have r3 := hr i g hgi 3 (by omega)
  have r4 := hr i g hgi 4 (by omega)
  rw [hb] at r0 r1 r2 r3 r4
  have r2 : rw (i * 5 + 2) = ixE g.2.2.1 n := r2
  have r3 : rw (i * 5 + 3) = ixE g.2.2.2.1 (n + (sE g.2.2.1).length) := r3
  have r4 : rw (i * 5 + 4) = ixT g.2.2.2.2 (n + (sE g.2.2.1).length + (sE g.2.2.2.1).length) := r4
  have one : ∀ (y : Option Ex) (b : Nat), (∀ e, y = some e → oE1 true e) → y ≠ none → sgm (fun k => (cA gs).getD k (0, 0)) b (sE y) → b + (sE y).length ≤ (cA gs).length → plq (fun k => (cA gs).getD k (0, 0)) (cA gs).length 23 (ixE y b) (denE y) := by
    intro y b hy hn hs hb
    cases y with
    | none => exact absurd rfl hn
    | some x =>
      obtain ⟨L, t1, t2⟩ := hy x rfl
      have hlen : (sE (some x)).length = x.1.length + 1 := by show (_ ++ [(0, 0)]).length = _; rw [List.length_append, List.length_singleton]
      rw [hlen] at hb
      exact ⟨b, by omega, rfl, fun w => ev_of (t1.1 _) t2 hs (by omega) w, fun w v hv => t1.2.2.2.1 w v hv⟩
  refine ⟨r0, r1, ?_, fun h3 => ?_⟩
  · rw [r4]
    cases ht : g.2.2.2.2 with
    | none => exact Or.inl ⟨rfl, fun w => rfl⟩
    | some t =>
      obtain ⟨L, t1, t2⟩ := o5 t ht
      rw [ht] at sg3 hll
      have hlen : (sT (some t) (n + (sE g.2.2.1).length + (sE g.2.2.2.1).length)).length = (t.1 (n + (sE g.2.2.1).length + (sE g.2.2.2.1).length)).length + 1 := by show (_ ++ [(0, 0)]).length = _; rw [List.length_append, List.length_singleton]
      rw [hlen] at hll
      refine Or.inr ⟨n + (sE g.2.2.1).length + (sE g.2.2.2.1).length, by omega, rfl, fun w => ev_of (t1.1 _) t2 sg3 (by omega) w, fun w v hv => ?_⟩
      rcases t1.2.2.2.1 w v hv with z | z <;> rw [z] <;> decide
  · have n1 : g.2.2.1 ≠ none := fun z => h3 (o6.mpr z)
    have n2 : g.2.2.2.1 ≠ none := fun z => n1 ((o7 rfl).mp z)
    exact ⟨by rw [r2]; exact one _ n o3 n1 sg1 (by omega), by rw [r3]; exact one _ _ o4 n2 sg2 (by omega)⟩
theorem law_cdq {q : Bool} {gs : List GC} (hg : ∀ g, g ∈ gs → gOK q g) (hl : (cA gs).length ≤ 400) : ∀ i, i < (cA gs).length → ((cA gs).getD i (0, 0)).1 < 16 ∧ ((cA gs).getD i (0, 0)).2 < 1000000 := by
  have key : ∀ (m : Nat) (hs : List GC), hs.length = m → (∀ g, g ∈ hs → gOK q g) → (cA hs).length ≤ 400 → ∀ x, x ∈ cA hs → x.1 < 16 ∧ x.2 < 1000000 := by
    intro m
    induction m with
    | zero => intro hs h _ _ x hx; rw [List.length_eq_zero_iff.mp h] at hx; cases hx
    | succ m ih =>
      intro hs h hg hl x hx
      rcases List.eq_nil_or_concat hs with e | ⟨ts, g, e⟩
      · rw [e] at h; cases h
      · have e : hs = ts ++ [g] := by rw [e, List.concat_eq_append]
        subst e
        rw [cA_snoc] at hx hl
        rw [List.length_append] at hl h
        rcases List.mem_append.mp hx with hx | hx
        · exact ih ts (by rw [List.length_singleton] at h; omega) (fun g hg2 => hg g (by simp [hg2])) (by omega) x hx
        · obtain ⟨o1, o2, o3, o4, o5, o6, o7, o8⟩ := hg g (by simp)
          have sEm : ∀ (y : Option Ex), (∀ e, y = some e → oE1 q e) → ∀ z, z ∈ sE y → z.1 < 16 ∧ z.2 < 1000000 := by
            intro y hy z hz
            cases y with
            | none => cases hz
            | some e =>
              obtain ⟨L, t1, t2⟩ := hy e rfl
              rcases List.mem_append.mp hz with hz | hz
              · have := t1.2.2.2.2.1 z hz; exact ⟨this.1, by omega⟩
              · rw [List.mem_singleton.mp hz]; exact ⟨by decide, by decide⟩
          unfold gcC at hx hl
          rcases List.mem_append.mp hx with hx | hx
          · exact sEm _ o3 x hx
          · rcases List.mem_append.mp hx with hx | hx
            · exact sEm _ o4 x hx
            · rw [List.length_append, List.length_append] at hl
              cases ht : g.2.2.2.2 with
              | none => rw [ht] at hx; cases hx
              | some t =>
                rw [ht] at hx hl
                obtain ⟨L, t1, t2⟩ := o5 t ht
                have hl2 : (sT (some t) ((cA ts).length + (sE g.2.2.1).length + (sE g.2.2.2.1).length)).length = (t.1 ((cA ts).length + (sE g.2.2.1).length + (sE g.2.2.2.1).length)).length + 1 := by show (_ ++ [(0, 0)]).length = _; rw [List.length_append, List.length_singleton]
                rw [hl2] at hl
                rcases List.mem_append.mp hx with hx | hx
                · have := t1.2.2.2.2.1 _ x hx; exact ⟨this.1, by omega⟩
                · rw [List.mem_singleton.mp hx]; exact ⟨by decide, by decide⟩
  intro i hi
  have : (cA gs).getD i (0, 0) ∈ cA gs := by
    rw [List.getD_eq_getElem?_getD, List.getElem?_eq_getElem hi]; exact List.getElem_mem hi
  exact key gs.length gs rfl hg hl _ this
/-- the program of orders that was read -/
def prgC (S : List XC) (iv : Nat → Nat → Int32) (gs : List GC) : Prop := progc S iv 12 (fun k => (cA gs).getD k (0, 0)) (cA gs).length ∧ progr S iv 12 (iv 14) gs.length ∧ (cA gs).length ≤ 400 ∧ (∀ g, g ∈ gs → gOK true g) ∧ rowsC iv gs
theorem prgC.fr {im lw : List (Option Nat)} {tl : List XC} {iv iv' : Nat → Nat → Int32} {gs : List GC} (h : prgC (SS im lw tl) iv gs) (e12 : iv' 12 = iv 12) (e13 : iv' 13 = iv 13) (e14 : iv' 14 = iv 14) : prgC (SS im lw tl) iv' gs := by
  obtain ⟨h1, h2, h3, h4, h5⟩ := h
  have k12 : (SS im lw tl)[12]? = some (5, 4, [some 13, some 14, none, none]) := rfl
  refine ⟨?_, ?_, h3, h4, ?_⟩
  · obtain ⟨c, N, rs, a1, a2, a3, a4, a5, a6⟩ := h1
    rw [k12] at a1
    injection a1 with a1
    injection a1 with _ a1
    injection a1 with _ a1
    injection a1 with a1 a0
    injection a1 with a1
    subst a1
    subst a0
    exact ⟨13, N, _, k12, a2, a3, by rw [e12]; exact a4, a5, by rw [e13]; exact a6⟩
  · obtain ⟨c, e, N, rs, a1, a2, a3, a4, a5, a6, a7, a8⟩ := h2
    rw [k12] at a1
    injection a1 with a1
    injection a1 with _ a1
    injection a1 with _ a1
    injection a1 with b1 a1
    injection a1 with a1 a0
    injection a1 with a1
    subst a1
    subst a0
    exact ⟨c, 14, N, _, by rw [← b1]; exact k12, a2, a3, by rw [e12]; exact a4, a5, a6, a7, fun j hj => rfl⟩
  · intro j g hj k hk
    rw [e14]; exact h5 j g hj k hk
