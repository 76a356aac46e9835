/-! orders: the class's loops -/
def invO (im lw : List (Option Nat)) (tl : List XC) (gs : List GC) (s : St × Nat × Int32) (iv : Nat → Nat → Int32) : Prop := RelC s.1 im lw tl iv ∧ OKA s.1 ∧ prgC (SS im lw tl) iv gs ∧ iv 42 1 = nI s.2.1 ∧ iv 42 2 = s.2.2
def stpO (X : XE) (cl : XCl) (im lw : List (Option Nat)) (tl : List XC) (k : Nat) (iv : Nat → Nat → Int32) (lv : Nat → Nat → Int64) (T : Option XR) : Prop := ∃ iv' lv' v, T = bV (cl 109 [.inr (.inr (some 2)), .inr (.inr (some 36))] (SS im lw tl, upd2 iv' 0 16 (nI k), lv')) (fun h1 => run X cl false 1 xc108 143 [some (.inr (.inr (some 0))), some (.inr (.inr (some 12))), some (.inl (nI k)), some (.inl v)] [] h1) ∧ frQ iv iv' ∧ agL lv lv'
def otC (X : XE) (cl : XCl) (im lw : List (Option Nat)) (tl : List XC) (gs : List GC) (i n : Nat) (iv : Nat → Nat → Int32) (lv : Nat → Nat → Int64) (T : Option XR) (r : Option (St × Nat × Int32)) : Prop := match r with
  | none => stpO X cl im lw tl i iv lv T
  | some s => ∃ iv' lv', T = run X cl false 1 xc108 72 [some (.inr (.inr (some 0))), some (.inr (.inr (some 12))), some (.inl (nI (i + 1))), some (.inl (nI n))] [] (SS im lw tl, iv', lv') ∧ invO im lw tl gs s iv' ∧ frQ iv iv' ∧ agL lv lv'
theorem stpO.tr {X : XE} {cl : XCl} {im lw : List (Option Nat)} {tl : List XC} {k : Nat} {iv iv1 : Nat → Nat → Int32} {lv lv1 : Nat → Nat → Int64} {T : Option XR} (h : stpO X cl im lw tl k iv1 lv1 T) (f : frQ iv iv1) (l : agL lv lv1) : stpO X cl im lw tl k iv lv T := by
  obtain ⟨iv', lv', v, h1, h2, h3⟩ := h
  exact ⟨iv', lv', v, h1, f.tr h2, l.tr h3⟩
theorem otC.tr {X : XE} {cl : XCl} {im lw : List (Option Nat)} {tl : List XC} {gs : List GC} {i n : Nat} {iv iv1 : Nat → Nat → Int32} {lv lv1 : Nat → Nat → Int64} {T : Option XR} {r : Option (St × Nat × Int32)} (h : otC X cl im lw tl gs i n iv1 lv1 T r) (f : frQ iv iv1) (l : agL lv lv1) : otC X cl im lw tl gs i n iv lv T r := by
  cases r with
  | none => exact stpO.tr h f l
  | some s =>
    obtain ⟨iv', lv', h1, h2, h3, h4⟩ := h
    exact ⟨iv', lv', h1, h2, f.tr h3, l.tr h4⟩
theorem rel42 {A : St} {im lw : List (Option Nat)} {tl : List XC} {iv iv' : Nat → Nat → Int32} (h : RelC A im lw tl iv) (f : fr [18, 20, 42] iv iv') : RelC A im lw tl iv' := h.fr (fun a ha => f a (by simp [ncC] at ha; simp; omega)) (fun a ha => f a (by simp; omega))
theorem prg42 {im lw : List (Option Nat)} {tl : List XC} {iv iv' : Nat → Nat → Int32} {gs : List GC} (h : prgC (SS im lw tl) iv gs) (f : frQ iv iv') : prgC (SS im lw tl) iv' gs := h.fr (f _ (by decide)) (f _ (by decide)) (f _ (by decide))
theorem c_oTimes (X : XE) (d : Nat) {im lw : List (Option Nat)} {tl : List XC} {gs : List GC} {i : Nat} {g : GC} (hg : gs[i]? = some g) : ∀ (m j : Nat) (s : St × Nat × Int32) (iv : Nat → Nat → Int32) (lv : Nat → Nat → Int64), j + m = g.2.1 → invO im lw tl gs s iv → otC X (call X xT (d + 13)) im lw tl gs i g.2.1 iv lv (run X (call X xT (d + 13)) false 1 xc108 82 [some (.inr (.inr (some 0))), some (.inr (.inr (some 12))), some (.inl (nI i)), some (.inl (nI j))] [] (SS im lw tl, iv, lv)) (oTimes g m s) := by
  intro m
  induction m with
  | zero =>
    intro j s iv lv hj hv
    have hi : i < gs.length := (List.getElem?_eq_some_iff.mp hg).1
    have hp := hv.2.2.1
    obtain ⟨q0, q1, q2, q3⟩ := ord_plc hp.2.2.2.1 hp.2.2.1 (rw := iv 14) hp.2.2.2.2 i g hg
    have g20 := (hp.2.2.2.1 g (List.mem_of_getElem? hg)).2.1
    rw [sg108_82, o12, c_part hp.2.1 hi (show 1 < 5 by decide), bI_some, q1, sg108_89, if_pos (nI_le (by omega) (by omega)), nI_add, show j = g.2.1 by omega]
    exact ⟨iv, lv, rfl, hv, fr.rf, agL.rf⟩
  | succ m ih =>
    intro j s iv lv hj hv
    have hi : i < gs.length := (List.getElem?_eq_some_iff.mp hg).1
    obtain ⟨hr, ho, hp, h421, h422⟩ := hv
    obtain ⟨q0, q1, q2, q3⟩ := ord_plc hp.2.2.2.1 hp.2.2.1 (rw := iv 14) hp.2.2.2.2 i g hg
    have g20 := (hp.2.2.2.1 g (List.mem_of_getElem? hg)).2.1
    rw [sg108_82, o12, c_part hp.2.1 hi (show 1 < 5 by decide), bI_some, q1, sg108_89, if_neg (nI_ge (by omega) (by omega))]
    obtain ⟨w, w1, w2⟩ := c_owords X (d + 11) (im := im) (lw := lw) (tl := tl) lv hr ho
    rw [h421, h422] at w2
    have f1 : fr [18, 20, 42] iv (upr iv 42 w) := fr_upr _ _ (by simp)
    have f1q : frQ iv (upr iv 42 w) := f1.mo (by simp)
    have hr1 := rel42 hr f1
    have hp1 := prg42 hp f1q
    have hw1 : ∀ k, k < 23 → (upr iv 42 w) 42 k = oW s.1.1.1 (nI s.2.1) s.2.2 k := fun k hk => by rw [upr_self]; exact w2 k hk
    obtain ⟨t, f, t1⟩ := c_testH X (d + 10) lv hp1 hg hw1
    have f2 : fr [18, 20, 42] (upr iv 42 w) (upd2 (upr iv 42 w) 18 1 t) := fr_upd _ _ _ (by simp)
    have f2q : frQ iv (upd2 (upr iv 42 w) 18 1 t) := f1q.tr (f2.mo (by simp))
    have l2 : agL lv (upr lv 19 f) := fun x h1 => upr_off _ _ _ h1
    have hr2 := rel42 hr1 f2
    have hp2 := prg42 hp f2q
    have hw2 : ∀ k, k < 23 → (upd2 (upr iv 42 w) 18 1 t) 42 k = oW s.1.1.1 (nI s.2.1) s.2.2 k := fun k hk => by rw [upd2_off _ _ _ _ (by decide)]; exact hw1 k hk
    rw [w1, bV_some, sg108_96, t1, bI_some, sg108_109, b2i_ite]
    unfold oTimes oOne
    by_cases hh : oHold g (oW s.1.1.1 (nI s.2.1) s.2.2) = true
    · rw [if_pos hh, if_pos hh]
      obtain ⟨iv3, lv3, a1, a2, a3, a4, a5, a6⟩ := c_perf X d (upr lv 19 f) hr2 ho hp2 hg hw2
      rw [a1, bI_some, sg108_121]
      have hok := oAct_ok g (oW s.1.1.1 (nI s.2.1) s.2.2) s.1 ho
      by_cases neg : (oAct g (oW s.1.1.1 (nI s.2.1) s.2.2) s.1).1 < 0
      · rw [if_pos neg, if_neg (fun z => by rw [fb_le] at z; rw [fb_lt] at neg; omega)]
        exact ⟨iv3, lv3, nI j, rfl, f2q.tr a3, l2.tr a4⟩
      · have pos : (0 : Int32) ≤ (oAct g (oW s.1.1.1 (nI s.2.1) s.2.2) s.1).1 := by rw [fb_le]; rw [fb_lt] at neg; omega
        rw [if_neg neg, if_pos pos, nI_add]
        have ho3 : OKA (oAct g (oW s.1.1.1 (nI s.2.1) s.2.2) s.1).2 := by
          rcases hok with ⟨k, k1, k2⟩ | k
          · rw [k2] at neg; exact absurd (rc_neg k1).1 neg
          · exact k.2
        have e1 : iv3 42 1 = nI s.2.1 := by rw [a5, hw2 1 (by decide)]; rfl
        have e2 : (upd2 (upr iv 42 w) 18 1 t) 42 2 = s.2.2 := by rw [hw2 2 (by decide)]; rfl
        rw [e1, nI_add]
        have f4 : fr [18, 20, 42] iv3 (upd2 iv3 42 1 (nI (s.2.1 + 1))) := fr_upd _ _ _ (by simp)
        have f4q : frQ iv (upd2 iv3 42 1 (nI (s.2.1 + 1))) := (f2q.tr a3).tr (f4.mo (by simp))
        refine otC.tr (ih (j + 1) (_, _, _) _ lv3 (by omega) ⟨rel42 a2 f4, ho3, prg42 hp f4q, upd2_self _ _ _ _, ?_⟩) f4q (l2.tr a4)
        rw [upd2_ne _ _ _ _ (by omega), a6 pos, e2]
    · rw [if_neg hh, if_neg hh, nI_add]
      refine otC.tr (ih (j + 1) s _ (upr lv 19 f) (by omega) ⟨hr2, ho, hp2, ?_, ?_⟩) f2q l2
      · rw [hw2 1 (by decide)]; rfl
      · rw [hw2 2 (by decide)]; rfl
def oaC (X : XE) (cl : XCl) (im lw : List (Option Nat)) (tl : List XC) (gs : List GC) (iv : Nat → Nat → Int32) (lv : Nat → Nat → Int64) (T : Option XR) (r : Nat ⊕ (St × Nat × Int32)) : Prop := match r with
  | .inl k => stpO X cl im lw tl k iv lv T
  | .inr s => ∃ iv' lv' v w, T = bI (cl 22 [.inr (.inr (some 0)), .inl (iv' 42 1)] (SS im lw tl, iv', lv')) (fun r2 h1 => run X cl false 1 xc108 193 [some (.inr (.inr (some 0))), some (.inr (.inr (some 12))), some (.inl v), w] [.inl r2] h1) ∧ invO im lw tl gs s iv' ∧ frQ iv iv' ∧ agL lv lv'
theorem oaC.tr {X : XE} {cl : XCl} {im lw : List (Option Nat)} {tl : List XC} {gs : List GC} {iv iv1 : Nat → Nat → Int32} {lv lv1 : Nat → Nat → Int64} {T : Option XR} {r : Nat ⊕ (St × Nat × Int32)} (h : oaC X cl im lw tl gs iv1 lv1 T r) (f : frQ iv iv1) (l : agL lv lv1) : oaC X cl im lw tl gs iv lv T r := by
  cases r with
  | inl k => exact stpO.tr h f l
  | inr s =>
    obtain ⟨iv', lv', v, w, h1, h2, h3, h4⟩ := h
    exact ⟨iv', lv', v, w, h1, h2, f.tr h3, l.tr h4⟩
theorem c_oAll (X : XE) (d : Nat) {im lw : List (Option Nat)} {tl : List XC} {gs : List GC} : ∀ (rest : List GC) (i : Nat) (s : St × Nat × Int32) (iv : Nat → Nat → Int32) (lv : Nat → Nat → Int64) (w3 : Option XV), i + rest.length = gs.length → (∀ j, rest[j]? = gs[i + j]?) → invO im lw tl gs s iv → oaC X (call X xT (d + 13)) im lw tl gs iv lv (run X (call X xT (d + 13)) false 1 xc108 72 [some (.inr (.inr (some 0))), some (.inr (.inr (some 12))), some (.inl (nI i)), w3] [] (SS im lw tl, iv, lv)) (oAll rest i s) := by
  intro rest
  induction rest with
  | nil =>
    intro i s iv lv w3 hl hgs hv
    have hn : gs.length ≤ 12 := by obtain ⟨_, _, _, _, _, _, _, _, _, _, z, _⟩ := hv.2.2.1.2.1; exact z
    have hl : i = gs.length := by simpa using hl
    rw [sg108_72, o12, c_clauses hv.2.2.1.2.1, bI_some, sg108_77, if_pos (nI_le (by omega) (by omega))]
    exact ⟨iv, lv, _, _, rfl, hv, fr.rf, agL.rf⟩
  | cons g rest ih =>
    intro i s iv lv w3 hl hgs hv
    have hn : gs.length ≤ 12 := by obtain ⟨_, _, _, _, _, _, _, _, _, _, z, _⟩ := hv.2.2.1.2.1; exact z
    have hl : i + (rest.length + 1) = gs.length := hl
    have hg : gs[i]? = some g := (hgs 0).symm
    rw [sg108_72, o12, c_clauses hv.2.2.1.2.1, bI_some, sg108_77, if_neg (nI_ge (by omega) (by omega))]
    have hT := c_oTimes X d hg g.2.1 0 s iv lv (by omega) hv
    unfold oAll
    cases hr : oTimes g g.2.1 s with
    | none => rw [hr] at hT; exact hT
    | some s' =>
      rw [hr] at hT
      obtain ⟨iv', lv', h1, h2, h3, h4⟩ := hT
      rw [h1]
      exact oaC.tr (ih (i + 1) s' iv' lv' _ (by omega) (fun j => by have := hgs (j + 1); rw [show i + 1 + j = i + (j + 1) by omega]; exact this) h2) h3 h4
