/-! the reference's reading: behindTest, readExpression -/
section mx
variable {X : XE} {im lw : List (Option Nat)} {tl : List XC} {q : Bool} {b : Nat → Nat} {n : Nat}
/-- a jump: the pile is settled, one pushed, one emitted -/
theorem m_jmpS (d : Nat) {iv : Nat → Nat → Int32} {lv : Nat → Nat → Int64} {i : Nat} {C P : Cd} {o c m x : Nat} (hm : m ≤ 10) (hx : x = 29 ∨ x = 30) (h : stM q b n iv lv i C P o c) (ht : tkF b n i ≠ 9999) {v1 : Int32} (hv : (x = 30 ∧ v1 = nI 0) ∨ (x = 29 ∧ v1 = nI 1)) : moP im lw tl q b n iv lv (.inr (0, (i + 1, (stl m P C).1 ++ [(x, 0)], (x, (stl m P C).1.length) :: (stl m P C).2, o, c))) (bV (call X xT (d + 3) 257 [.inr (.inr (some 46)), .inl (nI m)] (SS im lw tl, iv, lv)) (fun h3 => run X (call X xT (d + 3)) false 1 xc260 35 [some (.inr (.inr (some 46))), some (.inl v1)] [] h3)) := by
  have hi := stM_lt h ht
  obtain ⟨iv1, a1, a2, a3⟩ := m_stlS (X := X) (im := im) (lw := lw) (tl := tl) (d + 1) (m := m) hm h
  have hn := (ntF_ok b n).2.2
  have hn4 := h.1.1.2.1
  have pi := pInv_jump a2.2.2.1 hi (by omega) hx
  have p0 := a2.2.2.1
  generalize (stl m P C).1 = C1 at a2 pi p0 ⊢
  generalize (stl m P C).2 = P1 at a2 pi p0 ⊢
  obtain ⟨q1, q2, q3, q4, q5, q6⟩ := p0
  have h23 : iv1 46 23 = nI C1.length := a2.2.1.2.2.2.2.1
  obtain ⟨iv2, b1, b2, b3, b4⟩ := m_pshA (X := X) (im := im) (lw := lw) (tl := tl) (d + 2) (x := x) (y := C1.length) a2.1 a2.2.1 (stM_cp a2) (by omega) (by omega) (by omega) (by omega) (fun z => by omega) (by
    show C1.length + ((if x = 29 ∨ x = 30 then 0 else 1) + cnP P1) ≤ 400
    rw [if_pos hx]; omega)
  obtain ⟨iv3, d1, d2, d3, d4⟩ := m_emtA (X := X) (im := im) (lw := lw) (tl := tl) (d + 2) (x := x) (y := 0) b2 b3 (by omega)
  obtain ⟨iv4, lv4, e1, e2, e3, e4⟩ := m_nxA (X := X) (im := im) (lw := lw) (tl := tl) (d + 1) d2 d3 a2.2.2.2 ht pi
  rw [a1, bV_some, sg260_35, h23]
  rcases hv with ⟨rfl, rfl⟩ | ⟨rfl, rfl⟩
  · rw [if_pos n0z, b1, bV_some, sg260_54, if_pos n0z, d1, bV_some, sg260_70, e1, bV_some, sg260_74]
    exact ⟨iv4, lv4, rfl, e2, ((a3.tr b4).tr d4).tr e3, e4⟩
  · rw [if_neg n1z, b1, bV_some, sg260_54, if_neg n1z, d1, bV_some, sg260_70, e1, bV_some, sg260_74]
    exact ⟨iv4, lv4, rfl, e2, ((a3.tr b4).tr d4).tr e3, e4⟩
theorem m_btest (d : Nat) {iv : Nat → Nat → Int32} {lv : Nat → Nat → Int64} {i : Nat} {C P : Cd} {o c : Nat} (h : stM q b n iv lv i C P o c) (hr : rTest (tkF b n) i C P o c ≠ .inl 99999) : moP im lw tl q b n iv lv (rTest (tkF b n) i C P o c) (call X xT (d + 4) 260 [.inr (.inr (some 46))] (SS im lw tl, iv, lv)) := by
  have F : ∀ {w : Nat}, tkF b n i ≠ w → ¬ decide (tkF b n i = w) = true := fun hw => by rw [decide_eq_false hw]; decide
  have w1 := m_isW X im lw tl (d + 2) h.1 (t := 2013) (Or.inl (by omega))
  have w2 := m_isW X im lw tl (d + 2) h.1 (t := 2012) (Or.inl (by omega))
  rw [hT_c.2.1] at w1
  rw [hT_c.2.2.1] at w2
  rw [tr260, w1, bI_some, sg260_7]
  unfold rTest at hr ⊢
  by_cases e1 : tkF b n i = 2013
  · rw [if_pos e1, decide_eq_true e1, if_neg (show ¬ b2i true = 0 by decide), if_neg (show ¬ b2i true = 0 by decide)]
    exact m_jmpS d (by omega) (Or.inl rfl) h (by omega) (Or.inr ⟨rfl, rfl⟩)
  rw [if_neg e1] at hr ⊢
  rw [decide_eq_false e1, if_pos (show b2i false = 0 by decide), w2, bI_some, sg260_19, b2i_ite]
  by_cases e2 : tkF b n i = 2012
  · rw [if_pos e2, if_pos (decide_eq_true e2), if_pos (show b2i false = 0 by decide)]
    exact m_jmpS d (by omega) (Or.inr rfl) h (by omega) (Or.inl ⟨rfl, rfl⟩)
  rw [if_neg e2] at hr ⊢
  rw [if_neg (F e2), m_inner X im lw tl (d + 2) iv lv (stM_cp h), bI_some, sg260_80]
  by_cases cn : inn P = none
  · rw [if_pos cn, if_pos (show innI P = -1 by unfold innI; rw [cn])]
    exact ⟨iv, lv, rfl, h, frX.rf, frO.rf⟩
  rw [if_neg cn] at hr ⊢
  have ne : ¬ innI P = -1 := by
    unfold innI
    cases hin : inn P with
    | none => exact absurd hin cn
    | some z =>
      refine nI_m1 ?_
      unfold inn at hin
      cases hf : P.find? (fun x => decide (31 ≤ x.1)) with
      | none => rw [hf] at hin; cases hin
      | some y =>
        rw [hf] at hin
        injection hin with hin
        have hin : y.1 = z := hin
        have := ((stM_cp h).2.2.2.1 y (List.mem_of_find?_eq_some hf)).2.1
        omega
  rw [if_neg ne, m_isS X im lw tl (d + 2) h.1 (c := 41) (by omega) (by decide), bI_some, sg260_93]
  by_cases e9 : tkF b n i = 41
  · rw [if_pos e9] at hr ⊢
    rw [decide_eq_true e9]
    by_cases g : o = 0 ∨ (stl 1 P C).2 = []
    · rw [if_pos g] at hr; exact absurd rfl hr
    · rw [if_neg g]
      obtain ⟨iv1, lv1, a1, a2, a3, a4⟩ := m_must1 (X := X) (im := im) (lw := lw) (tl := tl) d h (by omega)
      obtain ⟨iv2, b1, b2, b3⟩ := m_stlS (X := X) (im := im) (lw := lw) (tl := tl) (d + 1) (m := 1) (by omega) a2
      obtain ⟨p1, p2⟩ := m_pop b2 (fun z => g (Or.inr z)) (fun z => g (Or.inl z))
      have a1 : call X xT (d + 3) 243 [.inr (.inr (some 46)), .inl (b2i true)] (SS im lw tl, iv, lv) = some (none, (SS im lw tl, iv1, lv1)) := a1
      rw [a1, bV_some, sg260_96, a2.2.1.1, if_pos n0z, b1, bV_some, sg260_108]
      exact ⟨_, lv1, rfl, p1, (a3.tr b3).tr p2, a4⟩
  · rw [if_neg e9] at hr ⊢
    rw [decide_eq_false e9]
    obtain ⟨b1, b2⟩ := stBad_of h
    have m0 : call X xT (d + 3) 243 [.inr (.inr (some 46)), .inl (b2i false)] (SS im lw tl, iv, lv) = _ := m_must0 (X := X) (im := im) (lw := lw) (tl := tl) (d + 2) lv h.2.1.1
    rw [m0, bV_some, sg260_96, b1.1, if_neg n1z]
    exact ⟨_, lv, _, rfl, b1, b2, frO.rf⟩
def stSp (q : Bool) (b : Nat → Nat) (n : Nat) (iv : Nat → Nat → Int32) (lv : Nat → Nat → Int64) (s : Sp) : Prop := stM q b n iv lv s.1 s.2.1 s.2.2.1 s.2.2.2.1 s.2.2.2.2
/-- turn by turn -/
theorem m_go (d : Nat) (test : Bool) : ∀ (k : Nat) (x : Nat × Sp) (iv : Nat → Nat → Int32) (lv : Nat → Nat → Int64), stSp q b n iv lv x.2 → (∀ y, goR q (tkF b n) test k x = .inr y → ∃ iv' lv', run X (call X xT (d + 6)) false 0 xc244 20 [some (.inr (.inr (some 46))), some (.inl (b2i test)), some (.inl (nI x.1))] [] (SS im lw tl, iv, lv) = run X (call X xT (d + 6)) false 0 xc244 20 [some (.inr (.inr (some 46))), some (.inl (b2i test)), some (.inl (nI y.1))] [] (SS im lw tl, iv', lv') ∧ stSp q b n iv' lv' y.2 ∧ frX iv iv' ∧ frO lv lv') ∧ (∀ e, goR q (tkF b n) test k x = .inl e → e ≠ 99999 → ∃ iv' lv' v, run X (call X xT (d + 6)) false 0 xc244 20 [some (.inr (.inr (some 46))), some (.inl (b2i test)), some (.inl (nI x.1))] [] (SS im lw tl, iv, lv) = run X (call X xT (d + 6)) false 0 xc244 20 [some (.inr (.inr (some 46))), some (.inl (b2i test)), some (.inl v)] [] (SS im lw tl, iv', lv') ∧ stBad b n iv' e ∧ frX iv iv' ∧ frO lv lv') := by
  intro k
  induction k with
  | zero =>
    intro x iv lv h
    refine ⟨fun y hy => ?_, fun e he => (by cases he)⟩
    injection hy with hy
    subst hy
    exact ⟨iv, lv, rfl, h, frX.rf, frO.rf⟩
  | succ k ih =>
    intro x iv lv h
    -- one turn
    have one : (stp q (tkF b n) test x = .inr x) ∨ ∃ T, (stp q (tkF b n) test x ≠ .inl 99999 → moP im lw tl q b n iv lv (stp q (tkF b n) test x) T) ∧ ∀ v iv' lv', T = some (some (.inl v), (SS im lw tl, iv', lv')) → run X (call X xT (d + 6)) false 0 xc244 20 [some (.inr (.inr (some 46))), some (.inl (b2i test)), some (.inl (nI x.1))] [] (SS im lw tl, iv, lv) = run X (call X xT (d + 6)) false 0 xc244 20 [some (.inr (.inr (some 46))), some (.inl (b2i test)), some (.inl v)] [] (SS im lw tl, iv', lv') := by
      have h19 : iv 46 19 = nI 0 := h.2.1.1
      unfold stp
      by_cases x0 : x.1 = 0
      · rw [if_pos x0]
        refine Or.inr ⟨_, fun _ => m_plain (X := X) d h, fun v iv' lv' hT => ?_⟩
        rw [sg244_20, h19, if_pos n0z, x0, if_neg (by decide), if_pos n0z, hT, bI_some, sg244_40, sg244_72]
      rw [if_neg x0]
      by_cases x1 : x.1 = 1
      · rw [if_pos x1]
        refine Or.inr ⟨_, fun _ => m_part (X := X) (d + 1) h, fun v iv' lv' hT => ?_⟩
        rw [sg244_20, h19, if_pos n0z, x1, if_neg (by decide), if_neg (by decide), if_pos rfl, hT, bI_some, sg244_52, sg244_72]
      rw [if_neg x1]
      by_cases x3 : x.1 = 3
      · rw [if_pos x3]
        refine Or.inr ⟨_, fun hr => m_bsum (X := X) (d + 2) h test hr, fun v iv' lv' hT => ?_⟩
        rw [sg244_20, h19, if_pos n0z, x3, if_neg (by decide), if_neg (by decide), if_neg (by decide), if_pos rfl, hT, bI_some, sg244_65, sg244_72]
      rw [if_neg x3]
      by_cases x2 : x.1 = 2
      · rw [if_pos x2]
        refine Or.inr ⟨_, fun hr => m_btest (X := X) (d + 2) h hr, fun v iv' lv' hT => ?_⟩
        rw [sg244_20, h19, if_pos n0z, x2, if_neg (by decide), if_neg (by decide), if_neg (by decide), if_neg (by decide), hT, bI_some, sg244_72]
      rw [if_neg x2]
      exact Or.inl rfl
    rcases one with hs | ⟨T, hT, hK⟩
    · obtain ⟨i1, i2⟩ := ih x iv lv h
      refine ⟨fun y hy => ?_, fun e he hne => ?_⟩
      · rw [goR_s, hs] at hy; exact i1 y hy
      · rw [goR_s, hs] at he; exact i2 e he hne
    · cases hst : stp q (tkF b n) test x with
      | inl e =>
        refine ⟨fun y hy => (by rw [goR_s, hst] at hy; cases hy), fun e2 he hne => ?_⟩
        rw [goR_s, hst] at he
        injection he with he
        subst he
        have p := hT (by rw [hst]; intro z; injection z with z; exact hne z)
        rw [hst] at p
        obtain ⟨iv', lv', v, a1, a2, a3, a4⟩ := p
        exact ⟨iv', lv', v, hK v iv' lv' a1, a2, a3, a4⟩
      | inr y =>
        have p := hT (by rw [hst]; intro z; cases z)
        rw [hst] at p
        obtain ⟨iv', lv', a1, a2, a3, a4⟩ := p
        have r1 := hK _ iv' lv' a1
        obtain ⟨i1, i2⟩ := ih y iv' lv' a2
        refine ⟨fun z hz => ?_, fun e he hne => ?_⟩
        · rw [goR_s, hst] at hz
          obtain ⟨iv2, lv2, b1, b2, b3, b4⟩ := i1 z hz
          exact ⟨iv2, lv2, r1.trans b1, b2, a3.tr b3, a4.tr b4⟩
        · rw [goR_s, hst] at he
          obtain ⟨iv2, lv2, v, b1, b2, b3, b4⟩ := i2 e he hne
          exact ⟨iv2, lv2, v, r1.trans b1, b2, a3.tr b3, a4.tr b4⟩
/-- between expressions -/
def stEx (q : Bool) (b : Nat → Nat) (n : Nat) (iv : Nat → Nat → Int32) (lv : Nat → Nat → Int64) (i : Nat) (C : Cd) (c : Nat) : Prop := lexM b n i iv lv ∧ (iv 46 19 = nI 0 ∧ iv 46 18 = -1 ∧ iv 46 20 = b2i q) ∧ cdM iv C ∧ iv 46 23 = nI C.length ∧ iv 46 26 = nI c ∧ constM lv ∧ i ≤ ntF b n ∧ C.length ≤ i ∧ c ≤ 50
def moE (im lw : List (Option Nat)) (tl : List XC) (q : Bool) (b : Nat → Nat) (n : Nat) {α : Type} (cod : α → Nat → Cd) (iv : Nat → Nat → Int32) (lv : Nat → Nat → Int64) (C : Cd) (r : Rd α) (T : Option XR) : Prop := match r with
  | .inl e => ∃ iv' lv', T = some (none, (SS im lw tl, iv', lv')) ∧ iv' 46 19 = nI 1 ∧ iv' 46 18 = nI (plF b n e) ∧ (∃ s, s ≤ 400 ∧ iv' 46 23 = nI s) ∧ frX iv iv' ∧ frO lv lv'
  | .inr x => ∃ iv' lv', T = some (none, (SS im lw tl, iv', lv')) ∧ stEx q b n iv' lv' x.2.2 (C ++ cod x.1 C.length) x.2.1 ∧ frX iv iv' ∧ frO lv lv'
theorem m_expr (d : Nat) (test : Bool) {iv : Nat → Nat → Int32} {lv : Nat → Nat → Int64} {i : Nat} {C : Cd} {c : Nat} (h : stEx q b n iv lv i C c) : stM q b n (upd2 (upd2 iv 46 29 (nI 0)) 46 30 (nI 0)) lv i C [] 0 c ∧ (∀ e, Rch q (tkF b n) test ((if test = true then 0 else 1), (i, C, [], 0, c)) (.inl e) → e ≠ 99999 → ∃ iv' lv', call X xT (d + 7) 244 [.inr (.inr (some 46)), .inl (b2i test)] (SS im lw tl, iv, lv) = some (none, (SS im lw tl, iv', lv')) ∧ iv' 46 19 = nI 1 ∧ iv' 46 18 = nI (plF b n e) ∧ (∃ s, s ≤ 400 ∧ iv' 46 23 = nI s) ∧ frX iv iv' ∧ frO lv lv') ∧ (∀ i' C' D C2 c', Rch q (tkF b n) test ((if test = true then 0 else 1), (i, C, [], 0, c)) (.inr (4, (i', C', D, 0, c'))) → stl 1 D C' = (C2, []) → ∃ iv' lv', call X xT (d + 7) 244 [.inr (.inr (some 46)), .inl (b2i test)] (SS im lw tl, iv, lv) = some (none, (SS im lw tl, iv', lv')) ∧ stEx q b n iv' lv' i' C2 c' ∧ frX iv iv' ∧ frO lv lv') := by
  obtain ⟨h1, ⟨s1, s2, s3⟩, s4, s5, s6, s7, s8, s9, s10⟩ := h
  have st : stM q b n (upd2 (upd2 iv 46 29 (nI 0)) 46 30 (nI 0)) lv i C [] 0 c := by
    refine ⟨lexM_P h1 (fun a k hk => by rw [upd2_ne _ _ _ _ (by omega), upd2_ne _ _ _ _ (by omega)]), ⟨?_, ?_, ?_, fun k z hz => ?_, ?_, ?_, trivial, ?_, ?_⟩, ⟨s8, s9, Nat.zero_le _, fun y hy => (by cases hy), by omega, s10⟩, s7⟩
    · rw [upd2_ne _ _ _ _ (by decide), upd2_ne _ _ _ _ (by decide)]; exact s1
    · rw [upd2_ne _ _ _ _ (by decide), upd2_ne _ _ _ _ (by decide)]; exact s2
    · rw [upd2_ne _ _ _ _ (by decide), upd2_ne _ _ _ _ (by decide)]; exact s3
    · rw [upd2_off _ _ _ _ (by decide), upd2_off _ _ _ _ (by decide), upd2_off _ _ _ _ (by decide), upd2_off _ _ _ _ (by decide)]; exact s4 k z hz
    · rw [upd2_ne _ _ _ _ (by decide), upd2_ne _ _ _ _ (by decide)]; exact s5
    · rw [upd2_ne _ _ _ _ (by decide), upd2_self]; rfl
    · rw [upd2_self]
    · rw [upd2_ne _ _ _ _ (by decide), upd2_ne _ _ _ _ (by decide)]; exact s6
  have f0 : frX iv (upd2 (upd2 iv 46 29 (nI 0)) 46 30 (nI 0)) := (frX_u _ _ (by omega)).tr (frX_u _ _ (by omega))
  have e0 : call X xT (d + 7) 244 [.inr (.inr (some 46)), .inl (b2i test)] (SS im lw tl, iv, lv) = run X (call X xT (d + 6)) false 0 xc244 20 [some (.inr (.inr (some 46))), some (.inl (b2i test)), some (.inl (nI (if test = true then 0 else 1)))] [] (SS im lw tl, upd2 (upd2 iv 46 29 (nI 0)) 46 30 (nI 0), lv) := by
    rw [tr244]
    cases test
    · rw [if_pos (show b2i false = 0 by decide)]; rfl
    · rw [if_neg (show ¬ b2i true = 0 by decide)]; rfl
  refine ⟨st, fun e hR hne => ?_, fun i' C' D C2 c' hR hs => ?_⟩
  · obtain ⟨k, hk⟩ := hR
    obtain ⟨iv1, lv1, v, a1, a2, a3, a4⟩ := (m_go (X := X) (im := im) (lw := lw) (tl := tl) d test k ((if test = true then 0 else 1), (i, C, [], 0, c)) _ lv st).2 e hk hne
    obtain ⟨B1, B2, C3, P3, B3⟩ := a2
    obtain ⟨iv2, b1, b2, b3, b4⟩ := m_settleC X im lw tl (d + 4) lv1 (m := 1) (by omega) B3
    have b1 : call X xT (d + 6) 257 [.inr (.inr (some 46)), .inl (nI 1)] (SS im lw tl, iv1, lv1) = some (none, (SS im lw tl, iv2, lv1)) := b1
    refine ⟨iv2, lv1, ?_, by rw [b4 46 19 (by omega)]; exact B1, by rw [b4 46 18 (by omega)]; exact B2, ⟨_, by have := b2.2.2.2.2.1; omega, b2.1⟩, (f0.tr a3).tr b4.X, a4⟩
    rw [e0, a1, sg244_20, B1, if_neg n1z, b1, bV_some, sg244_81]
  · obtain ⟨k, hk⟩ := hR
    obtain ⟨iv1, lv1, a1, a2, a3, a4⟩ := (m_go (X := X) (im := im) (lw := lw) (tl := tl) d test k ((if test = true then 0 else 1), (i, C, [], 0, c)) _ lv st).1 _ hk
    have a2 : stM q b n iv1 lv1 i' C' D 0 c' := a2
    obtain ⟨iv2, b1, b2, b3⟩ := m_stlS (X := X) (im := im) (lw := lw) (tl := tl) (d + 4) (m := 1) (by omega) a2
    rw [hs] at b2
    have b1 : call X xT (d + 6) 257 [.inr (.inr (some 46)), .inl (nI 1)] (SS im lw tl, iv1, lv1) = some (none, (SS im lw tl, iv2, lv1)) := b1
    obtain ⟨l1, ⟨t1, t2, t3, t4, t5, t6, t7, t8, t9⟩, l3, l4⟩ := b2
    obtain ⟨p1, p2, p3, p4, p5, p6⟩ := l3
    refine ⟨iv2, lv1, ?_, ⟨l1, ⟨t1, t2, t3⟩, t4, t5, t9, l4, p1, (by have p2 : C2.length + 0 ≤ i' := p2; omega), p6⟩, (f0.tr a3).tr b3, a4⟩
    rw [e0, a1, sg244_20, a2.2.1.1, if_pos n0z, if_pos rfl, b1, bV_some, sg244_81]
def codEm (e : Ex) (_ : Nat) : Cd := e.2.1
def codTm (t : Te) (m : Nat) : Cd := t.2.1 m
theorem m_exprS (d : Nat) {iv : Nat → Nat → Int32} {lv : Nat → Nat → Int64} {i : Nat} {C : Cd} {c : Nat} (h : stEx q b n iv lv i C c) : moE im lw tl q b n codEm iv lv C (pSum q (tkF b n) 8 c i) (call X xT (d + 7) 244 [.inr (.inr (some 46)), .inl (nI 0)] (SS im lw tl, iv, lv)) := by
  obtain ⟨-, m1, m2⟩ := m_expr (X := X) (im := im) (lw := lw) (tl := tl) d false h
  have hn := (ntF_ok b n).2.2
  have hn4 := h.1.1.2.1
  have hc := h.2.2.2.2.2.2.2.2
  have hi := h.2.2.2.2.2.2.1
  obtain ⟨x1, x2⟩ := expr_sum (q := q) (tkF_end b n) (by omega) C hc hi
  cases hr : pSum q (tkF b n) 8 c i with
  | inl e =>
    have g := GF_sum (q := q) (tkF_end b n) (wvF_ok q) 8 c i hc hi
    rw [hr] at g
    have g : e ≤ ntF b n := g
    exact m1 e (x1 e hr) (by omega)
  | inr x =>
    obtain ⟨C', D, y1, y2⟩ := x2 x.1 x.2.1 x.2.2 hr
    exact m2 x.2.2 C' D _ x.2.1 y1 y2
theorem m_exprT (d : Nat) {iv : Nat → Nat → Int32} {lv : Nat → Nat → Int64} {i : Nat} {C : Cd} {c : Nat} (h : stEx q b n iv lv i C c) : moE im lw tl q b n codTm iv lv C (pTest q (tkF b n) 8 c i) (call X xT (d + 7) 244 [.inr (.inr (some 46)), .inl (nI 1)] (SS im lw tl, iv, lv)) := by
  obtain ⟨-, m1, m2⟩ := m_expr (X := X) (im := im) (lw := lw) (tl := tl) d true h
  have hn := (ntF_ok b n).2.2
  have hn4 := h.1.1.2.1
  have hc := h.2.2.2.2.2.2.2.2
  have hi := h.2.2.2.2.2.2.1
  obtain ⟨x1, x2⟩ := expr_test (q := q) (tkF_end b n) (by omega) C hc hi
  cases hr : pTest q (tkF b n) 8 c i with
  | inl e =>
    have g := GF_test (q := q) (tkF_end b n) (wvF_ok q) 8 c i hc hi
    rw [hr] at g
    have g : e ≤ ntF b n := g
    exact m1 e (x1 e hr) (by omega)
  | inr x =>
    obtain ⟨C', D, y1, y2⟩ := x2 x.1 x.2.1 x.2.2 hr
    exact m2 x.2.2 C' D _ x.2.1 y1 y2
end mx
