/-! orders: the reference's loops -/
def stpM (X : XE) (cl : XCl) (im lw : List (Option Nat)) (tl : List XC) (v1 : Int32) (k : Nat) (iv : Nat → Nat → Int32) (lv : Nat → Nat → Int64) (T : Option XR) : Prop := ∃ iv' lv' v, T = bV (cl 314 [.inr (.inr (some 46)), .inl v1] (SS im lw tl, iv', lv')) (fun h1 => run X cl false 1 xc308 182 [some (.inr (.inr (some 46))), some (.inl v1), some (.inl (nI k)), some (.inl v)] [] h1) ∧ frK iv iv' ∧ agK lv lv'
theorem stpM.tr {X : XE} {cl : XCl} {im lw : List (Option Nat)} {tl : List XC} {v1 : Int32} {k : Nat} {iv iv1 : Nat → Nat → Int32} {lv lv1 : Nat → Nat → Int64} {T : Option XR} (h : stpM X cl im lw tl v1 k iv1 lv1 T) (f : frK iv iv1) (l : agK lv lv1) : stpM X cl im lw tl v1 k iv lv T := by
  obtain ⟨iv', lv', v, h1, h2, h3⟩ := h
  exact ⟨iv', lv', v, h1, f.tr h2, l.tr h3⟩
def otM (X : XE) (cl : XCl) (im lw : List (Option Nat)) (tl : List XC) (gs : List GC) (v1 : Int32) (i n : Nat) (iv : Nat → Nat → Int32) (lv : Nat → Nat → Int64) (T : Option XR) (r : Option (St × Nat × Int32)) : Prop := match r with
  | none => stpM X cl im lw tl v1 i iv lv T
  | some s => ∃ iv' lv', T = run X cl false 1 xc308 140 [some (.inr (.inr (some 46))), some (.inl v1), some (.inl (nI (i + 1))), some (.inl (nI n))] [] (SS im lw tl, iv', lv') ∧ invM gs s iv' lv' ∧ frK iv iv' ∧ agK lv lv'
theorem otM.tr {X : XE} {cl : XCl} {im lw : List (Option Nat)} {tl : List XC} {gs : List GC} {v1 : Int32} {i n : Nat} {iv iv1 : Nat → Nat → Int32} {lv lv1 : Nat → Nat → Int64} {T : Option XR} {r : Option (St × Nat × Int32)} (h : otM X cl im lw tl gs v1 i n iv1 lv1 T r) (f : frK iv iv1) (l : agK lv lv1) : otM X cl im lw tl gs v1 i n iv lv T r := by
  cases r with
  | none => exact stpM.tr h f l
  | some s =>
    obtain ⟨iv', lv', h1, h2, h3, h4⟩ := h
    exact ⟨iv', lv', h1, h2, f.tr h3, l.tr h4⟩
theorem m_oTimes (X : XE) (d : Nat) {im lw : List (Option Nat)} {tl : List XC} {gs : List GC} {i : Nat} {g : GC} (hg : gs[i]? = some g) (v1 : Int32) : ∀ (m j : Nat) (s : St × Nat × Int32) (iv : Nat → Nat → Int32) (lv : Nat → Nat → Int64), j + m = g.2.1 → invM gs s iv lv → otM X (call X xT (d + 14)) im lw tl gs v1 i g.2.1 iv lv (run X (call X xT (d + 14)) false 1 xc308 150 [some (.inr (.inr (some 46))), some (.inl v1), some (.inl (nI i)), some (.inl (nI j))] [] (SS im lw tl, iv, lv)) (oTimes g m s) := by
  intro m
  induction m with
  | zero =>
    intro j s iv lv hj hv
    have hp := hv.2.2.1
    have i12 : i < 12 := by have := (List.getElem?_eq_some_iff.mp hg).1; have := hp.2.2.1; omega
    obtain ⟨k0, k7, -, -, -⟩ := ord_mk hp i g hg
    have g20 := (hp.2.2.2.1 g (List.mem_of_getElem? hg)).2.1
    rw [sg308_150, pk_mul, nI_add, if_pos (inb_nI (by omega) (by omega)), nI_clamp (by omega), k7, if_pos (nI_le (by omega) (by omega)), nI_add, show j = g.2.1 by omega]
    exact ⟨iv, lv, rfl, hv, frK.rf, agK.rf⟩
  | succ m ih =>
    intro j s iv lv hj hv
    have hp := hv.2.2.1
    have i12 : i < 12 := by have := (List.getElem?_eq_some_iff.mp hg).1; have := hp.2.2.1; omega
    obtain ⟨k0, k7, -, -, -⟩ := ord_mk hp i g hg
    have g20 := (hp.2.2.2.1 g (List.mem_of_getElem? hg)).2.1
    have ho := m_oOne (X := X) (im := im) (lw := lw) (tl := tl) d hg hv
    rw [sg308_150, pk_mul, nI_add, if_pos (inb_nI (by omega) (by omega)), nI_clamp (by omega), k7, if_neg (nI_ge (by omega) (by omega))]
    unfold oTimes
    cases hr : oOne g s with
    | none =>
      rw [hr] at ho
      obtain ⟨iv', lv', f, l, e, er⟩ := ho
      have e : call X xT (d + 14) 311 [.inr (.inr (some 46)), .inl (nI (8 * i))] (SS im lw tl, iv, lv) = some (some (.inl (-3)), (SS im lw tl, iv', lv')) := e
      rw [e, bI_some, sg308_174, if_neg (by decide)]
      exact ⟨iv', lv', nI j, rfl, f, l⟩
    | some s' =>
      rw [hr] at ho
      obtain ⟨iv', lv', f, l, e, hv'⟩ := ho
      rw [e, bI_some, sg308_174, if_pos (by decide), nI_add]
      exact otM.tr (ih (j + 1) s' iv' lv' (by omega) hv') f l
def oaM (X : XE) (cl : XCl) (im lw : List (Option Nat)) (tl : List XC) (gs : List GC) (v1 : Int32) (iv : Nat → Nat → Int32) (lv : Nat → Nat → Int64) (T : Option XR) (r : Nat ⊕ (St × Nat × Int32)) : Prop := match r with
  | .inl k => stpM X cl im lw tl v1 k iv lv T
  | .inr s => ∃ iv' lv' v w, T = bI (cl 198 [.inr (.inr (some 46)), .inl (iv' 46 52)] (SS im lw tl, iv', lv')) (fun r2 h1 => run X cl false 1 xc308 214 [some (.inr (.inr (some 46))), some (.inl v1), some (.inl v), w] [.inl r2] h1) ∧ invM gs s iv' lv' ∧ frK iv iv' ∧ agK lv lv'
theorem oaM.tr {X : XE} {cl : XCl} {im lw : List (Option Nat)} {tl : List XC} {gs : List GC} {v1 : Int32} {iv iv1 : Nat → Nat → Int32} {lv lv1 : Nat → Nat → Int64} {T : Option XR} {r : Nat ⊕ (St × Nat × Int32)} (h : oaM X cl im lw tl gs v1 iv1 lv1 T r) (f : frK iv iv1) (l : agK lv lv1) : oaM X cl im lw tl gs v1 iv lv T r := by
  cases r with
  | inl k => exact stpM.tr h f l
  | inr s =>
    obtain ⟨iv', lv', v, w, h1, h2, h3, h4⟩ := h
    exact ⟨iv', lv', v, w, h1, h2, f.tr h3, l.tr h4⟩
theorem m_oAll (X : XE) (d : Nat) {im lw : List (Option Nat)} {tl : List XC} {gs : List GC} (v1 : Int32) : ∀ (rest : List GC) (i : Nat) (s : St × Nat × Int32) (iv : Nat → Nat → Int32) (lv : Nat → Nat → Int64) (w3 : Option XV), i + rest.length = gs.length → (∀ j, rest[j]? = gs[i + j]?) → invM gs s iv lv → oaM X (call X xT (d + 14)) im lw tl gs v1 iv lv (run X (call X xT (d + 14)) false 1 xc308 140 [some (.inr (.inr (some 46))), some (.inl v1), some (.inl (nI i)), w3] [] (SS im lw tl, iv, lv)) (oAll rest i s) := by
  intro rest
  induction rest with
  | nil =>
    intro i s iv lv w3 hl hgs hv
    have hn := hv.2.2.1.2.2.1
    have h21 := hv.2.2.1.2.2.2.2.2.2
    have hl : i = gs.length := by simpa using hl
    rw [sg308_140, h21, if_pos (nI_le (by omega) (by omega))]
    exact ⟨iv, lv, _, _, rfl, hv, frK.rf, agK.rf⟩
  | cons g rest ih =>
    intro i s iv lv w3 hl hgs hv
    have hn := hv.2.2.1.2.2.1
    have h21 := hv.2.2.1.2.2.2.2.2.2
    have hl : i + (rest.length + 1) = gs.length := hl
    have hg : gs[i]? = some g := (hgs 0).symm
    rw [sg308_140, h21, if_neg (nI_ge (by omega) (by omega))]
    have hT := m_oTimes X d (im := im) (lw := lw) (tl := tl) hg v1 g.2.1 0 s iv lv (by omega) hv
    unfold oAll
    cases hr : oTimes g g.2.1 s with
    | none => rw [hr] at hT; exact hT
    | some s' =>
      rw [hr] at hT
      obtain ⟨iv', lv', h1, h2, h3, h4⟩ := hT
      rw [h1]
      exact oaM.tr (ih (i + 1) s' iv' lv' _ (by omega) (fun j => by have := hgs (j + 1); rw [show i + 1 + j = i + (j + 1) by omega]; exact this) h2) h3 h4
