/-! the reference's pile is settled -/
section ms
variable (X : XE) (im lw : List (Option Nat)) (tl : List XC)
theorem fl1_pOK {C : Cd} {x : Nat × Nat} {r : Cd} (h : pOK C (x :: r)) : pOK (fl1 C x) r := fun y hy => by
  obtain ⟨h1, h2, h3, h4⟩ := h y (by simp [hy])
  have := fl1_len C x
  exact ⟨h1, h2, h3, fun z => by have := h4 z; omega⟩
theorem m_stlL (d : Nat) (lv : Nat → Nat → Int64) {m : Nat} (hm : m ≤ 10) : ∀ (P C : Cd) (iv : Nat → Nat → Int32), cpM iv C P → ∃ iv', run X (call X xT (d + 1)) false 0 xc257 0 [some (.inr (.inr (some 46))), some (.inl (nI m))] [] (SS im lw tl, iv, lv) = some (none, (SS im lw tl, iv', lv)) ∧ cpM iv' (stl m P C).1 (stl m P C).2 ∧ (cdM iv C → cdM iv' (stl m P C).1) ∧ frP iv iv' := by
  intro P
  induction P with
  | nil =>
    intro C iv h
    rw [sg257_0, h.2.1, if_pos (by decide)]
    exact ⟨iv, rfl, h, fun h => h, frP.rf⟩
  | cons x r ih =>
    intro C iv h
    have hh := h
    obtain ⟨h1, h2, h3, h4, h5, h6⟩ := h
    obtain ⟨p1, p2, p3, p4⟩ := h4 x (by simp)
    obtain ⟨s1, s2, s3⟩ := h3
    rw [List.length_cons] at h2 h6
    have hb : bnd x.1 ≤ 6 := by unfold bnd; repeat' split <;> (try omega)
    have e1 : nI (r.length + 1) - nI 1 = nI r.length := by rw [pk_sub (by omega)]; rfl
    have np : ¬ nI (r.length + 1) ≤ 0 := by
      rw [Int32.le_iff_toInt_le, nI_toInt (by omega), show (0 : Int32).toInt = 0 by decide]; omega
    rw [sg257_0, h2, if_neg np, e1, if_pos (inb_nI (by omega) (by omega)), nI_clamp (by omega), s1, m_binds X im lw tl d iv lv x.1 (by omega) p1, bI_some, sg257_21]
    unfold stl
    by_cases c : m ≤ bnd x.1
    · rw [if_pos c, if_neg (nI_nlt (by omega) (by omega)), h2, e1, if_pos (inb_nI (by omega) (by omega)), nI_clamp (by omega), s1, s2, h1]
      have cC : C.length ≤ 400 := by omega
      have ne : ∀ a : Nat, a < 2 ^ 31 → x.1 ≠ a → ¬ nI x.1 = nI a := fun a ha h z => h (by have := congrArg Int32.toNatClampNeg z; rw [nI_clamp (by omega), nI_clamp (by omega)] at this; exact this)
      have jmpc : (x.1 = 29 ∨ x.1 = 30) → ∃ iv', run X (call X xT (d + 1)) false 0 xc257 0 [some (.inr (.inr (some 46))), some (.inl (nI m))] [] (SS im lw tl, upd2 (upd2 iv 46 29 (nI r.length)) 58 x.2 (nI C.length), lv) = some (none, (SS im lw tl, iv', lv)) ∧ cpM iv' (stl m r (fl1 C x)).1 (stl m r (fl1 C x)).2 ∧ (cdM iv C → cdM iv' (stl m r (fl1 C x)).1) ∧ frP iv iv' := by
        intro hj
        have hlt := p4 hj
        have hl : (fl1 C x).length = C.length := by rw [fl1_len, if_pos hj]; rfl
        obtain ⟨iv', a1, a2, a3, a4⟩ := ih (fl1 C x) (upd2 (upd2 iv 46 29 (nI r.length)) 58 x.2 (nI C.length)) ⟨by rw [upd2_off _ _ _ _ (by decide), upd2_ne _ _ _ _ (by decide), hl]; exact h1, by rw [upd2_off _ _ _ _ (by decide), upd2_self], plM_fr r.length (fun k hk => ⟨by rw [upd2_off _ _ _ _ (by decide), upd2_off _ _ _ _ (by decide)], by rw [upd2_off _ _ _ _ (by decide), upd2_off _ _ _ _ (by decide)]⟩) r (Nat.le_refl _) s3, fl1_pOK h4, by
          rw [hl]
          have : cnP (x :: r) = (if x.1 = 29 ∨ x.1 = 30 then 0 else 1) + cnP r := rfl
          omega, by omega⟩
        refine ⟨iv', a1, a2, fun hc => a3 (fun k z hz => ?_), frP.tr (fun a k hk => ?_) a4⟩
        · unfold fl1 at hz
          rw [if_pos hj] at hz
          have e57 : (upd2 (upd2 iv 46 29 (nI r.length)) 58 x.2 (nI C.length)) 57 k = iv 57 k := by rw [upd2_off _ _ _ _ (by decide), upd2_off _ _ _ _ (by decide)]
          rw [e57]
          by_cases ek : k = x.2
          · subst ek
            rw [List.getElem?_set_self hlt] at hz
            injection hz with hz
            rw [upd2_self, ← hz]
            have : C[x.2]? = some (C.getD x.2 (0, 0)) := by rw [List.getD_eq_getElem?_getD, List.getElem?_eq_getElem hlt]; rfl
            exact ⟨(hc x.2 _ this).1, rfl⟩
          · rw [List.getElem?_set_ne (fun z => ek z.symm)] at hz
            rw [upd2_ne _ _ _ _ (fun z => ek z.2), upd2_off _ _ _ _ (by decide)]
            exact hc k z hz
        · rw [upd2_ne _ _ _ _ (by omega), upd2_ne _ _ _ _ (by omega)]
      by_cases e29 : x.1 = 29
      · have hlt := p4 (Or.inl e29)
        rw [if_pos (by rw [e29]), if_pos (inb_nI (by omega) (by omega)), if_pos (inb_nI (by omega) (by omega)), nI_clamp (by omega)]
        exact jmpc (Or.inl e29)
      · rw [if_neg (ne 29 (by omega) e29), if_pos (inb_nI (by omega) (by omega))]
        by_cases e30 : x.1 = 30
        · have hlt := p4 (Or.inr e30)
          rw [if_pos (by rw [e30]), if_pos (inb_nI (by omega) (by omega)), if_pos (inb_nI (by omega) (by omega)), nI_clamp (by omega)]
          exact jmpc (Or.inr e30)
        · have hl : (fl1 C x).length = C.length + 1 := by rw [fl1_len, if_neg (by omega)]
          have hcn : cnP (x :: r) = 1 + cnP r := by show (if x.1 = 29 ∨ x.1 = 30 then 0 else 1) + cnP r = _; rw [if_neg (by omega)]
          obtain ⟨iv1, b1, b2, b3, b4, b5, b6, b7⟩ := m_emit X im lw tl d (iv := upd2 iv 46 29 (nI r.length)) lv (C := C) (by rw [upd2_ne _ _ _ _ (by decide)]; exact h1) (by omega) (nI x.1) (nI 0)
          rw [if_neg (ne 30 (by omega) e30), if_pos (inb_nI (by omega) (by omega)), b1, bV_some, sg257_98]
          obtain ⟨iv', a1, a2, a3, a4⟩ := ih (fl1 C x) iv1 ⟨by rw [hl]; exact b2, by rw [b3, upd2_self], plM_fr r.length (fun k hk => ⟨by rw [b4, upd2_off _ _ _ _ (by decide)], by rw [b5, upd2_off _ _ _ _ (by decide)]⟩) r (Nat.le_refl _) s3, fl1_pOK h4, by rw [hl]; omega, by omega⟩
          refine ⟨iv', a1, a2, fun hc => a3 ?_, frP.tr (fun a k hk => upd2_ne _ _ _ _ (by omega)) (b7.tr a4)⟩
          have : fl1 C x = C ++ [(x.1, 0)] := by unfold fl1; rw [if_neg (by omega)]
          rw [this]
          refine b6 x.1 0 rfl rfl (fun k z hz => ?_)
          rw [upd2_off _ _ _ _ (by decide), upd2_off _ _ _ _ (by decide)]
          exact hc k z hz
    · rw [if_neg c, if_pos (nI_lt (by omega) (by omega))]
      exact ⟨iv, rfl, hh, fun h => h, frP.rf⟩
theorem m_settleC (d : Nat) (lv : Nat → Nat → Int64) {m : Nat} (hm : m ≤ 10) {P C : Cd} {iv : Nat → Nat → Int32} (h : cpM iv C P) : ∃ iv', call X xT (d + 2) 257 [.inr (.inr (some 46)), .inl (nI m)] (SS im lw tl, iv, lv) = some (none, (SS im lw tl, iv', lv)) ∧ cpM iv' (stl m P C).1 (stl m P C).2 ∧ (cdM iv C → cdM iv' (stl m P C).1) ∧ frP iv iv' := by
  have := m_stlL X im lw tl d lv hm P C iv h
  rw [sg257_0] at this
  rw [tr257]
  exact this
/-- the innermost bracket -/
theorem m_inner_l (cl : XCl) (iv : Nat → Nat → Int32) (lv : Nat → Nat → Int64) {P : Cd} (h29 : iv 46 29 = nI P.length) (hl : P.length ≤ 400) : ∀ (D R : Cd) (v : Int32), P = D ++ R → plM iv P → (∀ y, y ∈ P → y.1 ≤ 32) → run X cl false 1 xc258 4 [some (.inr (.inr (some 46))), some (.inl v), some (.inl (nI R.length))] [] (SS im lw tl, iv, lv) = some (some (.inl (match inn D with
    | none => v
    | some z => nI z)), (SS im lw tl, iv, lv)) := by
  have at' : ∀ (P D R : Cd) (y : Nat × Nat), plM iv P → P = D ++ y :: R → iv 59 R.length = nI y.1 := by
    intro P
    induction P with
    | nil => intro D R y _ e; cases D <;> cases e
    | cons z P ih =>
      intro D R y hp e
      cases D with
      | nil => injection e with e1 e2; subst e1; subst e2; exact hp.1
      | cons w D => injection e with e1 e2; exact ih D R y hp.2.2 e2
  intro D
  induction h : D.length generalizing D with
  | zero =>
    intro R v e hp hy
    have := List.length_eq_zero_iff.mp h
    subst this
    have e : P = R := e
    subst e
    rw [sg258_4, h29, if_pos (nI_le (Nat.le_refl _) (by omega))]
    rfl
  | succ m ih =>
    intro R v e hp hy
    rcases List.eq_nil_or_concat D with e0 | ⟨D2, y, e0⟩
    · rw [e0] at h; cases h
    · have e0 : D = D2 ++ [y] := by rw [e0, List.concat_eq_append]
      subst e0
      have e2 : P = D2 ++ y :: R := by rw [e, List.append_assoc]; rfl
      have hlen : P.length = D2.length + 1 + R.length := by rw [e2, List.length_append, List.length_cons]; omega
      have h59 := at' P D2 R y hp e2
      have hy32 := hy y (by rw [e2]; simp)
      rw [sg258_4, h29, if_neg (nI_ge (by omega) (by omega)), if_pos (inb_nI (by omega) (by omega)), nI_clamp (by omega), h59, nI_add]
      have hin : inn (D2 ++ [y]) = match inn D2 with
          | some z => some z
          | none => if 31 ≤ y.1 then some y.1 else none := by
        unfold inn
        rw [List.find?_append]
        cases hf : D2.find? (fun x => decide (31 ≤ x.1)) with
        | some z => rfl
        | none =>
          by_cases q : 31 ≤ y.1
          · rw [List.find?_cons_of_pos (by simpa using q), if_pos q]; rfl
          · rw [List.find?_cons_of_neg (by simpa using q), if_neg q]; rfl
      have nx := fun v => ih D2 (by rw [List.length_append, List.length_singleton] at h; omega) (y :: R) v e2 hp hy
      by_cases q : y.1 < 31
      · rw [if_pos (nI_lt q (by omega))]
        rw [show R.length + 1 = (y :: R).length from rfl, nx v, hin, if_neg (by omega)]
        cases inn D2 <;> rfl
      · rw [if_neg (nI_nlt (by omega) (by omega)), if_pos (inb_nI (by omega) (by omega))]
        rw [show R.length + 1 = (y :: R).length from rfl, nx (nI y.1), hin, if_pos (by omega)]
        cases inn D2 <;> rfl
def innI (P : Cd) : Int32 := match inn P with
  | none => -1
  | some z => nI z
theorem m_inner (d : Nat) (iv : Nat → Nat → Int32) (lv : Nat → Nat → Int64) {C P : Cd} (h : cpM iv C P) : call X xT (d + 1) 258 [.inr (.inr (some 46))] (SS im lw tl, iv, lv) = some (some (.inl (innI P)), (SS im lw tl, iv, lv)) := by
  rw [tr258]
  exact m_inner_l X im lw tl _ iv lv h.2.1 h.2.2.2.2.2 P [] (-1) (by rw [List.append_nil]) h.2.2.1 (fun y hy => (h.2.2.2.1 y hy).2.1)
theorem m_isC_l (d : Nat) (iv : Nat → Nat → Int32) (lv : Nat → Nat → Int64) : ∀ (P : Cd), P.length ≤ 400 → plM iv P → (∀ y, y ∈ P → y.1 ≤ 32) → run X (call X xT (d + 1)) false 4 xc259 7 [some (.inr (.inr (some 46))), some (.inl (nI P.length - nI 1))] [] (SS im lw tl, iv, lv) = some (some (.inl (b2i (isC P))), (SS im lw tl, iv, lv)) := by
  intro P
  induction P with
  | nil =>
    intro _ _ _
    rw [sg259_7, if_pos (by decide), if_pos (by decide)]
    rfl
  | cons x r ih =>
    intro hl hp hy
    rw [List.length_cons] at hl ⊢
    have e1 : nI (r.length + 1) - nI 1 = nI r.length := by rw [pk_sub (by omega)]; rfl
    have hx := hy x (by simp)
    rw [e1, sg259_7, if_neg (nI_pos (by omega)), if_pos (inb_nI (by omega) (by omega)), nI_clamp (by omega), hp.1, nI_l (by omega), m_in X d, bI_some, sg259_27, b2i_ite]
    have i1 : decide (lN 20 ≤ lN x.1 ∧ lN x.1 ≤ lN 24) = decide (20 ≤ x.1 ∧ x.1 ≤ 24) := decide_eq_decide.mpr (by rw [lN_le (by omega) (by omega), lN_le (by omega) (by omega)])
    have i2 : decide (lN 25 ≤ lN x.1 ∧ lN x.1 ≤ lN 27) = decide (25 ≤ x.1 ∧ x.1 ≤ 27) := decide_eq_decide.mpr (by rw [lN_le (by omega) (by omega), lN_le (by omega) (by omega)])
    rw [i1]
    rw [show isC (x :: r) = (if 20 ≤ x.1 ∧ x.1 ≤ 24 then isC r else decide (25 ≤ x.1 ∧ x.1 ≤ 27)) from rfl]
    by_cases c : 20 ≤ x.1 ∧ x.1 ≤ 24
    · rw [if_pos (decide_eq_true c), if_pos c]
      have nx := ih (by omega) hp.2.2 (fun y hy2 => hy y (by simp [hy2]))
      rw [show nI r.length + (-1) = nI r.length - nI 1 from (m1eq r.length).symm]
      exact nx
    · rw [if_neg (show ¬ decide (20 ≤ x.1 ∧ x.1 ≤ 24) = true by rw [decide_eq_false c]; decide), if_neg c, if_neg (nI_pos (by omega)), if_pos (inb_nI (by omega) (by omega)), nI_clamp (by omega), hp.1, nI_l (by omega), m_in X d, bI_some, sg259_56, b2i_ite, i2]
      cases decide (25 ≤ x.1 ∧ x.1 ≤ 27)
      · rw [if_neg (by decide)]; rfl
      · rw [if_pos rfl]; rfl
theorem m_isCmp (d : Nat) (iv : Nat → Nat → Int32) (lv : Nat → Nat → Int64) {C P : Cd} (h : cpM iv C P) : call X xT (d + 2) 259 [.inr (.inr (some 46))] (SS im lw tl, iv, lv) = some (some (.inl (b2i (isC P))), (SS im lw tl, iv, lv)) := by
  rw [tr259, h.2.1]
  exact m_isC_l X im lw tl d iv lv P h.2.2.2.2.2 h.2.2.1 (fun y hy => (h.2.2.2.1 y hy).2.1)
end ms
