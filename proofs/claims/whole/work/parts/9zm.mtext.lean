/-! the reference reads a text of laws -/
def frZ (iv iv' : Nat → Nat → Int32) : Prop := ∀ a k, ¬ (a = 56 ∨ a = 57 ∨ a = 58 ∨ a = 59 ∨ a = 60 ∨ a = 77 ∨ (a = 46 ∧ (k = 13 ∨ k = 14 ∨ k = 15 ∨ k = 16 ∨ k = 18 ∨ k = 19 ∨ k = 20 ∨ k = 21 ∨ k = 23 ∨ k = 26 ∨ k = 29 ∨ k = 30))) → iv' a k = iv a k
theorem frZ.rf {iv : Nat → Nat → Int32} : frZ iv iv := fun _ _ _ => rfl
theorem frZ.tr {a b c : Nat → Nat → Int32} (h : frZ a b) (h2 : frZ b c) : frZ a c := fun x k hk => (h2 x k hk).trans (h x k hk)
theorem frY.Z {iv iv' : Nat → Nat → Int32} (h : frY iv iv') : frZ iv iv' := fun a k hk => h a k (by omega)
theorem frZ_u (iv : Nat → Nat → Int32) {k : Nat} (v : Int32) (hk : k = 13 ∨ k = 14 ∨ k = 15 ∨ k = 16 ∨ k = 18 ∨ k = 19 ∨ k = 20 ∨ k = 21 ∨ k = 23 ∨ k = 26 ∨ k = 29 ∨ k = 30) : frZ iv (upd2 iv 46 k v) := fun a j hj => upd2_ne _ _ _ _ (by omega)
theorem sg235_61X (X : XE) (cl : XCl) (S : List XC) (iv : Nat → Nat → Int32) (lv : Nat → Nat → Int64) : run X cl false 1 xc235 61 [some (.inr (.inr (some 46))), none, none] [] (S, iv, lv) = run X cl false 1 xc235 37 [some (.inr (.inr (some 46))), none, none] [] (S, iv, lv) := seg_of (chk_pos xk235) [27, 33, 37, 50, 57, 61, 68, 81, 110, 145, 221] 400 rfl
section mz
variable {X : XE} {im lw : List (Option Nat)} {tl : List XC} {q : Bool} {b : Nat → Nat} {n : Nat}
theorem m_begin (d : Nat) {iv : Nat → Nat → Int32} {lv : Nat → Nat → Int64} (h : txtM b n iv) (hc : constM lv) (q : Bool) : ∃ iv' lv', call X xT (d + 4) 236 [.inr (.inr (some 46)), .inl (b2i q)] (SS im lw tl, iv, lv) = some (none, (SS im lw tl, iv', lv')) ∧ stEx q b n iv' lv' 0 [] 0 ∧ iv' 46 21 = nI 0 ∧ frZ iv iv' ∧ frO lv lv' := by
  rw [tr236, if_pos (is01_b q), tr237]
  generalize hg : upd2 (upd2 (upd2 (upd2 iv 46 20 (b2i q)) 46 15 (nI 0)) 46 19 (nI 0)) 46 18 (-1) = iv1
  have f1 : frZ iv iv1 := hg ▸ ((frZ_u _ _ (by omega)).tr (frZ_u _ _ (by omega))).tr ((frZ_u _ _ (by omega)).tr (frZ_u _ _ (by omega)))
  have g20 : iv1 46 20 = b2i q := by rw [← hg, upd2_ne _ _ _ _ (by decide), upd2_ne _ _ _ _ (by decide), upd2_ne _ _ _ _ (by decide), upd2_self]
  have g15 : iv1 46 15 = nI 0 := by rw [← hg, upd2_ne _ _ _ _ (by decide), upd2_ne _ _ _ _ (by decide), upd2_self]
  have g19 : iv1 46 19 = nI 0 := by rw [← hg, upd2_ne _ _ _ _ (by decide), upd2_self]
  have g18 : iv1 46 18 = -1 := by rw [← hg, upd2_self]
  have t1 : txtM b n iv1 := ⟨by rw [← hg, upd2_ne _ _ _ _ (by decide), upd2_ne _ _ _ _ (by decide), upd2_ne _ _ _ _ (by decide), upd2_ne _ _ _ _ (by decide)]; exact h.1, h.2.1, fun j hj => by rw [f1 55 j (by omega)]; exact h.2.2.1 j hj, h.2.2.2⟩
  obtain ⟨iv2, lv2, a1, a2, a3, a4, a5, a6, a7⟩ := m_nextP X im lw tl d lv t1 g15 (Nat.zero_le _)
  rw [a1, bV_some, sg237_19, bV_some, sg236_9]
  have z : ∀ a k, ¬ (a = 46 ∧ (k = 21 ∨ k = 23 ∨ k = 26)) → (upd2 (upd2 (upd2 iv2 46 21 (nI 0)) 46 23 (nI 0)) 46 26 (nI 0)) a k = iv2 a k := fun a k hk => by rw [upd2_ne _ _ _ _ (by omega), upd2_ne _ _ _ _ (by omega), upd2_ne _ _ _ _ (by omega)]
  refine ⟨_, lv2, rfl, ⟨lexM_P (iv := iv2) ⟨frN_t t1 a6, a2, a3, a4, a5⟩ (fun a k hk => z a k (by omega)), ⟨by rw [z 46 19 (by omega), a6 46 19 (by omega)]; exact g19, by rw [z 46 18 (by omega), a6 46 18 (by omega)]; exact g18, by rw [z 46 20 (by omega), a6 46 20 (by omega)]; exact g20⟩, fun k x hx => (by cases hx), by rw [upd2_ne _ _ _ _ (by decide), upd2_self]; rfl, by rw [upd2_self], a7.c hc, Nat.zero_le _, Nat.zero_le _, by omega⟩, by rw [upd2_ne _ _ _ _ (by decide), upd2_ne _ _ _ _ (by decide), upd2_self], ?_, a7⟩
  exact (f1.tr a6.X.Y.Z).tr (((frZ_u _ _ (by omega)).tr (frZ_u _ _ (by omega))).tr (frZ_u _ _ (by omega)))
/-- the end of a text that went well so far -/
theorem m_endT (d : Nat) {iv : Nat → Nat → Int32} {lv : Nat → Nat → Int64} {i : Nat} {C : Cd} {c : Nat} (h : stEx q b n iv lv i C c) : ∃ iv', call X xT (d + 2) 261 [.inr (.inr (some 46))] (SS im lw tl, iv, lv) = some (none, (SS im lw tl, iv', lv)) ∧ iv' 46 20 = nI 0 ∧ iv' 46 13 = nI 0 ∧ frZ iv iv' ∧ (tkF b n i = 9999 → ∀ a k, ¬ (a = 46 ∧ (k = 13 ∨ k = 20)) → iv' a k = iv a k) ∧ (tkF b n i ≠ 9999 → badM b n iv' i) := by
  have h16 : iv 46 16 = nI (soF b n i) := h.1.2.2.2.1
  rw [tr261, h.2.1.1, if_pos n0z, h16]
  by_cases e : tkF b n i = 9999
  · have hp : ¬ plF b n i < n := fun z => by
      unfold tkF at e
      rw [if_pos z] at e
      have := tkP_le h.1.1.2.2.2 n (plF b n i)
      omega
    have : soF b n i = 0 := by unfold soF; rw [if_neg hp]
    rw [this, if_pos n0z, sg261_19]
    refine ⟨_, rfl, by rw [upd2_ne _ _ _ _ (by decide), upd2_self], by rw [upd2_self], (frZ_u _ _ (by omega)).tr (frZ_u _ _ (by omega)), fun _ a k hk => by rw [upd2_ne _ _ _ _ (by omega), upd2_ne _ _ _ _ (by omega)], fun z => absurd e z⟩
  · have hp := plF_lt e
    have h0 := plF_kd b n i hp
    have hk := kd_le (b (plF b n i))
    have : soF b n i = kd (b (plF b n i)) := by unfold soF; rw [if_pos hp]
    rw [this, if_neg (fun z => h0 (by have := congrArg Int32.toNatClampNeg z; rw [nI_clamp (by omega)] at this; exact this)), m_must0 (X := X) (im := im) (lw := lw) (tl := tl) d lv h.2.1.1, bV_some, sg261_19]
    obtain ⟨b1, b2⟩ := bad0 h
    refine ⟨_, rfl, by rw [upd2_ne _ _ _ _ (by decide), upd2_self], by rw [upd2_self], b2.Z.tr ((frZ_u _ _ (by omega)).tr (frZ_u _ _ (by omega))), fun z => absurd z e, fun _ => ⟨?_, ?_⟩⟩
    · rw [upd2_ne _ _ _ _ (by decide), upd2_ne _ _ _ _ (by decide)]; exact b1.1
    · rw [upd2_ne _ _ _ _ (by decide), upd2_ne _ _ _ _ (by decide)]; exact b1.2
theorem m_endB (d : Nat) {iv : Nat → Nat → Int32} {lv : Nat → Nat → Int64} {e : Nat} (h : badM b n iv e) : ∃ iv', call X xT (d + 1) 261 [.inr (.inr (some 46))] (SS im lw tl, iv, lv) = some (none, (SS im lw tl, iv', lv)) ∧ iv' 46 20 = nI 0 ∧ iv' 46 13 = nI 0 ∧ frZ iv iv' ∧ badM b n iv' e := by
  rw [tr261, h.1, if_neg n1z, sg261_19]
  exact ⟨_, rfl, by rw [upd2_ne _ _ _ _ (by decide), upd2_self], by rw [upd2_self], (frZ_u _ _ (by omega)).tr (frZ_u _ _ (by omega)), by rw [upd2_ne _ _ _ _ (by decide), upd2_ne _ _ _ _ (by decide)]; exact h.1, by rw [upd2_ne _ _ _ _ (by decide), upd2_ne _ _ _ _ (by decide)]; exact h.2⟩
/-- what a text leaves -/
def moX (b : Nat → Nat) (n : Nat) (rows : (Nat → Nat → Int32) → List GC → Prop) (iv : Nat → Nat → Int32) (r : Nat ⊕ List GC) : Prop := match r with
  | .inl e => badM b n iv e
  | .inr gs => (iv 46 19 = nI 0 ∧ iv 46 18 = -1) ∧ gs.length ≤ 12 ∧ iv 46 21 = nI gs.length ∧ iv 46 23 = nI (cMA gs).length ∧ (cMA gs).length ≤ 400 ∧ cdM iv (cMA gs) ∧ rows iv gs
theorem m_lawLoop (d : Nat) : ∀ (k : Nat) (gs : List GC) (c i : Nat) (iv : Nat → Nat → Int32) (lv : Nat → Nat → Int64), gs.length + k = 12 → stEx false b n iv lv i (cMA gs) c → iv 46 21 = nI gs.length → rowsL iv gs → ∃ iv' lv', bV (call X xT (d + 9) 241 [.inr (.inr (some 46))] (SS im lw tl, iv, lv)) (fun h1 => run X (call X xT (d + 9)) false 1 xc235 37 [some (.inr (.inr (some 46))), none, none] [] h1) = run X (call X xT (d + 9)) false 1 xc235 68 [some (.inr (.inr (some 46))), none, none] [] (SS im lw tl, iv', lv') ∧ moX b n rowsL iv' (pText false (tkF b n) k gs c i) ∧ iv' 46 20 = nI 0 ∧ iv' 46 13 = nI 0 ∧ frZ iv iv' ∧ frO lv lv' := by
  have badc : ∀ (iv iv1 : Nat → Nat → Int32) (lv lv1 : Nat → Nat → Int64) (e : Nat), badM b n iv1 e → frY iv iv1 → frO lv lv1 → ∃ iv' lv', run X (call X xT (d + 9)) false 1 xc235 37 [some (.inr (.inr (some 46))), none, none] [] (SS im lw tl, iv1, lv1) = run X (call X xT (d + 9)) false 1 xc235 68 [some (.inr (.inr (some 46))), none, none] [] (SS im lw tl, iv', lv') ∧ badM b n iv' e ∧ iv' 46 20 = nI 0 ∧ iv' 46 13 = nI 0 ∧ frZ iv iv' ∧ frO lv lv' := by
    intro iv iv1 lv lv1 e hb hf ho
    obtain ⟨iv2, a1, a2, a3, a4, a5⟩ := m_endB (X := X) (im := im) (lw := lw) (tl := tl) (d + 8) (lv := lv1) hb
    rw [sg235_37, hb.1, if_neg n1z, a1, bV_some]
    exact ⟨iv2, lv1, rfl, a5, a2, a3, hf.Z.tr a4, ho⟩
  intro k
  induction k with
  | zero =>
    intro gs c i iv lv hk h h21 hr
    have p := m_law1 (X := X) (im := im) (lw := lw) (tl := tl) d (by omega) h h21 hr
    rw [if_neg (by omega)] at p
    obtain ⟨iv1, lv1, a1, a2, a3, a4⟩ := p
    rw [a1, bV_some]
    exact badc iv iv1 lv lv1 i a2 a3 a4
  | succ k ih =>
    intro gs c i iv lv hk h h21 hr
    have p := m_law1 (X := X) (im := im) (lw := lw) (tl := tl) d (by omega) h h21 hr
    rw [if_pos (by omega)] at p
    unfold pText pCl
    rw [if_neg (by decide)]
    cases hp : pLaw false (tkF b n) c i with
    | inl e =>
      rw [hp] at p
      obtain ⟨iv1, lv1, a1, a2, a3, a4⟩ := p
      rw [a1, bV_some]
      exact badc iv iv1 lv lv1 e a2 a3 a4
    | inr x =>
      rw [hp] at p
      obtain ⟨iv1, lv1, a1, ⟨a2, a3, a4⟩, a5, a6⟩ := p
      rw [a1, bV_some, sg235_37, a2.2.1.1, if_pos n0z, m_isS X im lw tl (d + 8) a2.1 (c := 59) (by omega) (by decide), bI_some, sg235_50, b2i_ite]
      simp only
      by_cases e9 : tkF b n x.2.2 = 9999
      · rw [if_pos e9, if_neg (show ¬ decide (tkF b n x.2.2 = 59) = true by rw [decide_eq_false (by omega)]; decide)]
        obtain ⟨iv2, b1, b2, b3, b4, b5, b6⟩ := m_endT (X := X) (im := im) (lw := lw) (tl := tl) (d + 7) a2
        have z := b5 e9
        rw [b1, bV_some]
        have hn := (ntF_ok b n).2.2
        have hn4 := a2.1.1.2.1
        have hl := a2.2.2.2.2.2.2.2.1
        have hin := a2.2.2.2.2.2.2.1
        refine ⟨iv2, lv1, rfl, ⟨⟨by rw [z 46 19 (by omega)]; exact a2.2.1.1, by rw [z 46 18 (by omega)]; exact a2.2.1.2.1⟩, by rw [List.length_append, List.length_singleton]; omega, by rw [z 46 21 (by omega), List.length_append, List.length_singleton]; exact a3, by rw [z 46 23 (by omega)]; exact a2.2.2.2.1, by omega, fun j y hy => ?_, fun j g hj w hw => ?_⟩, b2, b3, a5.Z.tr b4, a6⟩
        · rw [z 57 j (by omega), z 58 j (by omega)]; exact a2.2.2.1 j y hy
        · rw [z 56 _ (by omega)]; exact a4 j g hj w hw
      · rw [if_neg e9]
        by_cases es : tkF b n x.2.2 = 59
        · rw [if_pos es, if_pos (decide_eq_true es)]
          obtain ⟨iv2, lv2, b1, b2, b3, b4⟩ := m_nxE (X := X) (im := im) (lw := lw) (tl := tl) (d + 7) a2 (by omega)
          rw [b1, bV_some, sg235_57]
          obtain ⟨iv3, lv3, d1, d2, d3, d4, d5, d6⟩ := ih (gs ++ [x.1]) x.2.1 (x.2.2 + 1) iv2 lv2 (by rw [List.length_append, List.length_singleton]; omega) b2 (by rw [b3 46 21 (by omega), List.length_append, List.length_singleton]; exact a3) (fun j g hj w hw => by rw [b3 56 _ (by omega)]; exact a4 j g hj w hw)
          refine ⟨iv3, lv3, ?_, d2, d3, d4, (a5.Z.tr b3.Y.Z).tr d5, (a6.tr b4).tr d6⟩
          rw [← d1]
          congr 1
          funext hh
          obtain ⟨S, v, l⟩ := hh
          exact sg235_61X X _ S v l
        · rw [if_neg es, if_neg (show ¬ decide (tkF b n x.2.2 = 59) = true by rw [decide_eq_false es]; decide)]
          obtain ⟨iv2, b1, b2, b3, b4, b5, b6⟩ := m_endT (X := X) (im := im) (lw := lw) (tl := tl) (d + 7) a2
          rw [b1, bV_some]
          exact ⟨iv2, lv1, rfl, b6 e9, b2, b3, a5.Z.tr b4, a6⟩
end mz
