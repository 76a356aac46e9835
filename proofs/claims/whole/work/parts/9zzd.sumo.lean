/-! orders: the marks of the reference's program, and sumOf -/
def plm (C : Cd) (a z : Nat) (f : Dn) : Prop := a < z ∧ z ≤ C.length ∧ ∀ w, ∃ m, evm (fun k => C.getD k (0, 0)) (wvG true w) z m a [] = some (f w)
def prgM (iv : Nat → Nat → Int32) (gs : List GC) : Prop := cdM iv (cMA gs) ∧ (cMA gs).length ≤ 400 ∧ gs.length ≤ 12 ∧ (∀ g, g ∈ gs → gOK true g) ∧ (∀ g, g ∈ gs → gOKg true g) ∧ rowsO iv gs ∧ iv 46 21 = nI gs.length
theorem ord_mk {iv : Nat → Nat → Int32} {gs : List GC} (h : prgM iv gs) : ∀ i g, gs[i]? = some g → iv 77 (8 * i) = nI g.1 ∧ iv 77 (8 * i + 7) = nI g.2.1 ∧ (g.2.2.2.2 = none ∧ iv 77 (8 * i + 5) = iv 77 (8 * i + 6) ∨ ∃ a z, iv 77 (8 * i + 5) = nI a ∧ iv 77 (8 * i + 6) = nI z ∧ plm (cMA gs) a z (denT g.2.2.2.2)) ∧ (g.1 = 3 → ∀ k, k < 4 → iv 77 (8 * i + 1 + k) = nI 0) ∧ (g.1 ≠ 3 → (∃ a z, iv 77 (8 * i + 1) = nI a ∧ iv 77 (8 * i + 2) = nI z ∧ plm (cMA gs) a z (denE g.2.2.1)) ∧ ∃ a z, iv 77 (8 * i + 3) = nI a ∧ iv 77 (8 * i + 4) = nI z ∧ plm (cMA gs) a z (denE g.2.2.2.1)) := by
  intro i g hgi
  obtain ⟨h1, h2, h3, h4, h5, h6, h7⟩ := h
  have ok := h5 g (List.mem_of_getElem? hgi)
  obtain ⟨R, hR⟩ := cF_at gcM gs.length gs rfl i g hgi
  have hR : cMA gs = cMA (gs.take i) ++ (gcM g (cMA (gs.take i)).length ++ R) := hR
  have hll := congrArg List.length hR
  rw [List.length_append, List.length_append] at hll
  have sg := sgm_of hR
  have hr := h6 i g hgi
  generalize hb : (cMA (gs.take i)).length = n at sg hll hr
  obtain ⟨o1, o2, o3, o4, o5, o6, o7, o8⟩ := ok
  unfold gcM at sg hll
  rw [List.length_append, List.length_append] at hll
  obtain ⟨sg1, sg2⟩ := sgm_app sg
  obtain ⟨sg2, sg3⟩ := sgm_app sg2
  have r0 := hr 0 (by omega)
  have r1 := hr 1 (by omega)
  have r2 := hr 2 (by omega)
  have r3 := hr 3 (by omega)
  have r4 := hr 4 (by omega)
  have r5 := hr 5 (by omega)
  have r6 := hr 6 (by omega)
  have r7 := hr 7 (by omega)
  have one : ∀ (y : Option Ex) (b : Nat), (∀ e, y = some e → oE1g true e) → y ≠ none → sgm (fun k => (cMA gs).getD k (0, 0)) b (eM y) → b + (eM y).length ≤ (cMA gs).length → plm (cMA gs) b (b + (eM y).length) (denE y) := by
    intro y b hy hn hs hb
    cases y with
    | none => exact absurd rfl hn
    | some x =>
      obtain ⟨L, t1, t2⟩ := hy x rfl
      have hne : 0 < x.2.1.length := List.length_pos_iff.mpr t1.2.2.2.2.2.2.2
      exact ⟨by show b < b + x.2.1.length; omega, hb, fun w => evm_of (t1.2.1 _) t2 hs w⟩
  refine ⟨r0, r7, ?_, fun e3 => ?_, fun h3 => ?_⟩
  · cases ht : g.2.2.2.2 with
    | none =>
      refine Or.inl ⟨rfl, ?_⟩
      rw [r5, r6]
      unfold orow
      rw [ht]
      rfl
    | some t =>
      obtain ⟨L, t1, t2⟩ := o5 t ht
      rw [ht] at sg3 hll
      have hne : 0 < (t.2.1 (n + (eM g.2.2.1).length + (eM g.2.2.2.1).length)).length := List.length_pos_iff.mpr (t1.2.2.2.2.2.2.2 _)
      refine Or.inr ⟨n + (eM g.2.2.1).length + (eM g.2.2.2.1).length, n + (eM g.2.2.1).length + (eM g.2.2.2.1).length + (t.2.1 (n + (eM g.2.2.1).length + (eM g.2.2.2.1).length)).length, r5, ?_, by omega, ?_, fun w => evm_of (t1.2.1 _) t2 sg3 w⟩
      · rw [r6]; unfold orow; rw [ht]; rfl
      · have : (tM (some t) (n + (eM g.2.2.1).length + (eM g.2.2.2.1).length)).length = (t.2.1 (n + (eM g.2.2.1).length + (eM g.2.2.2.1).length)).length := rfl
        omega
  · intro k hk
    rcases (show k = 0 ∨ k = 1 ∨ k = 2 ∨ k = 3 by omega) with e | e | e | e <;> subst e
    · show iv 77 (8 * i + 1) = _
      rw [r1]; unfold orow; rw [if_neg (by omega), if_neg (by omega), if_neg (by omega), if_neg (by omega), if_pos e3]
    · show iv 77 (8 * i + 2) = _
      rw [r2]; unfold orow; rw [if_neg (by omega), if_neg (by omega), if_neg (by omega), if_neg (by omega), if_pos e3]
    · show iv 77 (8 * i + 3) = _
      rw [r3]; unfold orow; rw [if_neg (by omega), if_neg (by omega), if_neg (by omega), if_neg (by omega), if_pos e3]
    · show iv 77 (8 * i + 4) = _
      rw [r4]; unfold orow; rw [if_neg (by omega), if_neg (by omega), if_neg (by omega), if_neg (by omega), if_pos e3]
  · have n1 : g.2.2.1 ≠ none := fun z => h3 (o6.mpr z)
    have n2 : g.2.2.2.1 ≠ none := fun z => n1 ((o7 rfl).mp z)
    unfold orow at r1 r2 r3 r4
    rw [if_neg (by omega), if_neg (by omega), if_neg (by omega), if_neg (by omega), if_neg h3] at r1 r2 r3 r4
    exact ⟨⟨n, n + (eM g.2.2.1).length, r1, r2, one _ n o3 n1 sg1 (by omega)⟩, ⟨n + (eM g.2.2.1).length, n + (eM g.2.2.1).length + (eM g.2.2.2.1).length, r3, r4, one _ _ o4 n2 sg2 (by omega)⟩⟩
def frS (iv iv' : Nat → Nat → Int32) : Prop := ∀ p k, ¬ (p = 46 ∧ (k = 38 ∨ k = 55)) → iv' p k = iv p k
def agS (lv lv' : Nat → Nat → Int64) : Prop := ∀ p k, p ≠ 66 → ¬ (p = 46 ∧ k = 39) → lv' p k = lv p k
theorem oWS.fr {f : Sc} {r l : Int32} {iv iv' : Nat → Nat → Int32} {lv lv' : Nat → Nat → Int64} (h : oWS f r l iv lv) (e : iv' 48 = iv 48) (e2 : ∀ k, lv' 65 k = lv 65 k) : oWS f r l iv' lv' := by
  unfold oWS
  rw [e, e2, e2, e2]
  exact h
/-- sumOf, where nothing broke yet -/
theorem m_sumO (X : XE) (d : Nat) (im lw : List (Option Nat)) (tl : List XC) (iv : Nat → Nat → Int32) (lv : Nat → Nat → Int64) {gs : List GC} (hp : prgM iv gs) (h20 : iv 46 20 = nI 0) (h55 : iv 46 55 = nI 0) {f : Sc} {r l : Int32} (hw : oWS f r l iv lv) {p a z : Nat} (hpp : p < 95) (ea : iv 77 p = nI a) (ez : iv 77 (p + 1) = nI z) {g : Dn} (hg : plm (cMA gs) a z g) : ∃ x iv' lv', call X xT (d + 5) 312 [.inr (.inr (some 46)), .inl (nI p)] (SS im lw tl, iv, lv) = some (some (.inl x), (SS im lw tl, iv', lv')) ∧ iv' 46 55 = b2i (g (oW f r l)).isNone ∧ (∀ v, g (oW f r l) = some v → x = v.toInt32) ∧ frS iv iv' ∧ agS lv lv' := by
  obtain ⟨g1, g2, g3⟩ := hg
  obtain ⟨m, hm⟩ := g3 (oW f r l)
  have u0 : ∀ p, p ≠ 46 → (upd2 iv 46 20 (nI 1)) p = iv p := fun p h => upd2_off _ _ _ _ h
  obtain ⟨iv1, lv1, k1, k2, k3, k4, k5⟩ := m_reckO X d im lw tl (upd2 iv 46 20 (nI 1)) lv (C := cMA gs) hp.2.1 (fun k x hx => by rw [u0 57 (by decide), u0 58 (by decide)]; exact hp.1 k x hx) (law_cdm hp.2.2.2.1 hp.2.1) (upd2_self _ _ _ _) (hw.fr (u0 48 (by decide)) (fun _ => rfl)) g2 (by have := hp.2.1; omega) hm
  have hl := hp.2.1
  rw [tr312, h55, if_pos nI0_eq0, nI_add, if_pos (inb_nI (by omega) (by omega)), if_pos (inb_nI (by omega) (by omega)), nI_clamp (by omega), nI_clamp (by omega), ea, ez, if_neg (fun w => by have := (nI_eq (by omega) (by omega)).mp w; omega), if_pos (inb_nI (by omega) (by omega)), if_pos (inb_nI (by omega) (by omega)), k1, bV_some, sg312_49, k2, if_pos (is01_b2i _)]
  refine ⟨_, _, lv1, rfl, upd2_self _ _ _ _, fun v hv => by rw [k3 v hv], fun q k hq => ?_, k5⟩
  rw [upd2_ne _ _ _ _ (by omega)]
  by_cases e : q = 46 ∧ k = 20
  · obtain ⟨rfl, rfl⟩ := e
    rw [upd2_self, h20]
  · rw [upd2_ne _ _ _ _ e, k4 q k (by omega), upd2_ne _ _ _ _ e]
