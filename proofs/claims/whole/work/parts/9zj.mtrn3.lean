/-! the reference's reading: readPlain, behindSum, behindTest -/
theorem hT_c : hT 2014 = 14836 ∧ hT 2013 = 1476 ∧ hT 2012 = 498 ∧ hT 2011 = 294 ∧ hT 2010 = 21279923 ∧ hT 2008 = 52 ∧ hT 2009 = 655 := by decide +kernel
section mw
variable {X : XE} {im lw : List (Option Nat)} {tl : List XC} {q : Bool} {b : Nat → Nat} {n : Nat}
theorem m_pshA (d : Nat) {iv : Nat → Nat → Int32} {lv : Nat → Nat → Int64} {i : Nat} {C P : Cd} {o c x y : Nat} (h1 : lexM b n i iv lv) (h2 : st0 q iv C P o c) (hc : cpM iv C P) (hp : P.length < 400) (hx : 20 ≤ x) (hx2 : x ≤ 32) (hy : y ≤ 400) (hj : (x = 29 ∨ x = 30) → y < C.length + 1) (hl : C.length + cnP ((x, y) :: P) ≤ 400) : ∃ iv', call X xT (d + 1) 246 [.inr (.inr (some 46)), .inl (nI x), .inl (nI y)] (SS im lw tl, iv, lv) = some (none, (SS im lw tl, iv', lv)) ∧ lexM b n i iv' lv ∧ st0 q iv' C ((x, y) :: P) o c ∧ frX iv iv' := by
  obtain ⟨iv', a1, a2, a3, a4, a5, a6⟩ := m_push X im lw tl d lv hc (x := x) (y := y) hp hx hx2 hy hj hl
  obtain ⟨s1, s2, s3, s4, s5, s6, s7, s8, s9⟩ := h2
  exact ⟨iv', a1, lexM_P h1 (fun a k hk => a6 a k (by omega)), ⟨by rw [a6 46 19 (by omega)]; exact s1, by rw [a6 46 18 (by omega)]; exact s2, by rw [a6 46 20 (by omega)]; exact s3, a5 s4, a2, a3, a4, by rw [a6 46 30 (by omega)]; exact s8, by rw [a6 46 26 (by omega)]; exact s9⟩, a6.X⟩
theorem m_emtA (d : Nat) {iv : Nat → Nat → Int32} {lv : Nat → Nat → Int64} {i : Nat} {C P : Cd} {o c x y : Nat} (h1 : lexM b n i iv lv) (h2 : st0 q iv C P o c) (hl : C.length < 400) : ∃ iv', call X xT (d + 1) 253 [.inr (.inr (some 46)), .inl (nI x), .inl (nI y)] (SS im lw tl, iv, lv) = some (none, (SS im lw tl, iv', lv)) ∧ lexM b n i iv' lv ∧ st0 q iv' (C ++ [(x, y)]) P o c ∧ frX iv iv' := by
  obtain ⟨s1, s2, s3, s4, s5, s6, s7, s8, s9⟩ := h2
  obtain ⟨iv', a1, a2, a3, a4, a5, a6, a7⟩ := m_emit X im lw tl d lv s5 hl (nI x) (nI y)
  exact ⟨iv', a1, lexM_P h1 (fun a k hk => a7 a k (by omega)), ⟨by rw [a7 46 19 (by omega)]; exact s1, by rw [a7 46 18 (by omega)]; exact s2, by rw [a7 46 20 (by omega)]; exact s3, a6 x y rfl rfl s4, by rw [List.length_append, List.length_singleton]; exact a2, by rw [a3]; exact s6, plM_fr P.length (fun k _ => ⟨by rw [a4], by rw [a5]⟩) P (Nat.le_refl _) s7, by rw [a7 46 30 (by omega)]; exact s8, by rw [a7 46 26 (by omega)]; exact s9⟩, a7.X⟩
theorem m_nxA (d : Nat) {iv : Nat → Nat → Int32} {lv : Nat → Nat → Int64} {i : Nat} {C P : Cd} {o c : Nat} (h1 : lexM b n i iv lv) (h2 : st0 q iv C P o c) (h4 : constM lv) (ht : tkF b n i ≠ 9999) (hp : pInv (ntF b n) (i + 1) C P o c) : ∃ iv' lv', call X xT (d + 2) 238 [.inr (.inr (some 46))] (SS im lw tl, iv, lv) = some (none, (SS im lw tl, iv', lv')) ∧ stM q b n iv' lv' (i + 1) C P o c ∧ frX iv iv' ∧ frO lv lv' := by
  obtain ⟨iv', lv', a1, a2, a3, a4⟩ := m_next X im lw tl d h1 ht
  exact ⟨iv', lv', a1, ⟨a2, st0_N h2 a3, hp, a4.c h4⟩, a3.X, a4⟩
theorem m_stlS (d : Nat) {iv : Nat → Nat → Int32} {lv : Nat → Nat → Int64} {i : Nat} {C P : Cd} {o c m : Nat} (hm : m ≤ 10) (h : stM q b n iv lv i C P o c) : ∃ iv', call X xT (d + 2) 257 [.inr (.inr (some 46)), .inl (nI m)] (SS im lw tl, iv, lv) = some (none, (SS im lw tl, iv', lv)) ∧ stM q b n iv' lv i (stl m P C).1 (stl m P C).2 o c ∧ frX iv iv' := by
  obtain ⟨iv', a1, a2, a3, a4⟩ := m_settleC X im lw tl d lv hm (stM_cp h)
  obtain ⟨h1, ⟨s1, s2, s3, s4, s5, s6, s7, s8, s9⟩, h3, h4⟩ := h
  exact ⟨iv', a1, ⟨lexM_P h1 (fun a k hk => a4 a k (by omega)), ⟨by rw [a4 46 19 (by omega)]; exact s1, by rw [a4 46 18 (by omega)]; exact s2, by rw [a4 46 20 (by omega)]; exact s3, a3 s4, a2.1, a2.2.1, a2.2.2.1, by rw [a4 46 30 (by omega)]; exact s8, by rw [a4 46 26 (by omega)]; exact s9⟩, pInv_stl m h3, h4⟩, a4.X⟩
/-- a bracket is taken off -/
theorem m_pop {iv : Nat → Nat → Int32} {lv : Nat → Nat → Int64} {i : Nat} {C P : Cd} {o c : Nat} (h : stM q b n iv lv i C P o c) (hP : P ≠ []) (ho : o ≠ 0) : stM q b n (upd2 (upd2 iv 46 29 (iv 46 29 - nI 1)) 46 30 (iv 46 30 - nI 1)) lv i C P.tail (o - 1) c ∧ frX iv (upd2 (upd2 iv 46 29 (iv 46 29 - nI 1)) 46 30 (iv 46 30 - nI 1)) := by
  obtain ⟨h1, ⟨s1, s2, s3, s4, s5, s6, s7, s8, s9⟩, h3, h4⟩ := h
  obtain ⟨p1, p2, p3, p4, p5, p6⟩ := h3
  cases P with
  | nil => exact absurd rfl hP
  | cons x r =>
    rw [List.length_cons] at s6
    refine ⟨⟨lexM_P h1 (fun a k hk => by rw [upd2_ne _ _ _ _ (by omega), upd2_ne _ _ _ _ (by omega)]), ⟨?_, ?_, ?_, fun k z hz => ?_, ?_, ?_, ?_, ?_, ?_⟩, ⟨p1, ?_, ?_, fun y hy => p4 y (by simp at hy; simp [hy]), by omega, p6⟩, h4⟩, (frX_u _ _ (by omega)).tr (frX_u _ _ (by omega))⟩
    · rw [upd2_ne _ _ _ _ (by decide), upd2_ne _ _ _ _ (by decide)]; exact s1
    · rw [upd2_ne _ _ _ _ (by decide), upd2_ne _ _ _ _ (by decide)]; exact s2
    · rw [upd2_ne _ _ _ _ (by decide), upd2_ne _ _ _ _ (by decide)]; exact s3
    · rw [upd2_off _ _ _ _ (by decide), upd2_off _ _ _ _ (by decide), upd2_off _ _ _ _ (by decide), upd2_off _ _ _ _ (by decide)]; exact s4 k z hz
    · rw [upd2_ne _ _ _ _ (by decide), upd2_ne _ _ _ _ (by decide)]; exact s5
    · rw [upd2_ne _ _ _ _ (by decide), upd2_self, s6, pk_sub (by omega)]; rfl
    · exact plM_fr r.length (fun k _ => ⟨by rw [upd2_off _ _ _ _ (by decide), upd2_off _ _ _ _ (by decide)], by rw [upd2_off _ _ _ _ (by decide), upd2_off _ _ _ _ (by decide)]⟩) r (Nat.le_refl _) s7.2.2
    · rw [upd2_self, s8, pk_sub (by omega)]
    · rw [upd2_ne _ _ _ _ (by decide), upd2_ne _ _ _ _ (by decide)]; exact s9
    · have := cnP_tail (x :: r)
      show C.length + cnP r ≤ i
      have : cnP r ≤ cnP (x :: r) := this
      omega
    · rw [List.length_cons] at p3; show r.length ≤ i; omega
theorem m_plain (d : Nat) {iv : Nat → Nat → Int32} {lv : Nat → Nat → Int64} {i : Nat} {C P : Cd} {o c : Nat} (h : stM q b n iv lv i C P o c) : moP im lw tl q b n iv lv (rPlain q (tkF b n) i C P o c) (call X xT (d + 6) 245 [.inr (.inr (some 46))] (SS im lw tl, iv, lv)) := by
  have w := m_isW X im lw tl (d + 4) h.1 (t := 2014) (Or.inl (by omega))
  rw [hT_c.1] at w
  rw [tr245, w, bI_some, sg245_7, b2i_ite]
  unfold rPlain
  by_cases e : tkF b n i = 2014
  · rw [if_pos (decide_eq_true e), if_pos e]
    have ht : tkF b n i ≠ 9999 := by omega
    have hi := stM_lt h ht
    have pi := pInv_push (o' := o) (x := 28) (y := 0) h.2.2.1 hi (by omega) (by omega) (by omega) (by omega) (by omega) h.2.2.1.2.2.2.2.1
    have hn := (ntF_ok b n).2.2
    have hn4 := h.1.1.2.1
    have cl := pi.2.1
    have pl := pi.2.2.1
    rw [List.length_cons] at pl
    obtain ⟨iv1, a1, a2, a3, a4⟩ := m_pshA (X := X) (im := im) (lw := lw) (tl := tl) (d + 4) (x := 28) (y := 0) h.1 h.2.1 (stM_cp h) (by omega) (by omega) (by omega) (by omega) (fun z => by omega) (by omega)
    obtain ⟨iv2, lv2, b1, b2, b3, b4⟩ := m_nxA (X := X) (im := im) (lw := lw) (tl := tl) (d + 3) a2 a3 h.2.2.2 ht pi
    rw [a1, bV_some, sg245_17, b1, bV_some, sg245_21]
    exact ⟨iv2, lv2, rfl, b2, a4.tr b3, b4⟩
  rw [if_neg (show ¬ decide (tkF b n i = 2014) = true by rw [decide_eq_false e]; decide), if_neg e, m_isS X im lw tl (d + 4) h.1 (c := 40) (by omega) (by decide), bI_some, sg245_29, b2i_ite]
  by_cases e2 : tkF b n i = 40
  · rw [if_pos (decide_eq_true e2), if_pos e2]
    obtain ⟨m1, m2⟩ := m_open (X := X) (im := im) (lw := lw) (tl := tl) (d + 1) (x := 31) (Or.inl rfl) h (by omega)
    by_cases o8 : o < 8
    · rw [if_pos o8]
      obtain ⟨iv', lv', a1, a2, a3, a4⟩ := m1 o8
      rw [a1, bV_some, sg245_38]
      exact ⟨iv', lv', rfl, a2, a3, a4⟩
    · rw [if_neg o8]
      obtain ⟨iv', a1, a2, a3⟩ := m2 o8
      rw [a1, bV_some, sg245_38]
      exact ⟨iv', lv, _, rfl, a2, a3, frO.rf⟩
  · rw [if_neg (show ¬ decide (tkF b n i = 40) = true by rw [decide_eq_false e2]; decide), if_neg e2]
    have p := m_part (X := X) (im := im) (lw := lw) (tl := tl) d h
    cases hr : rPart q (tkF b n) i C P o c with
    | inl e => rw [hr] at p; obtain ⟨iv', lv', v, a1, a2, a3, a4⟩ := p; rw [a1, bI_some, sg245_44]; exact ⟨iv', lv', v, rfl, a2, a3, a4⟩
    | inr x => rw [hr] at p; obtain ⟨iv', lv', a1, a2, a3, a4⟩ := p; rw [a1, bI_some, sg245_44]; exact ⟨iv', lv', rfl, a2, a3, a4⟩
/-- an operation between sums -/
theorem m_op (d : Nat) {iv : Nat → Nat → Int32} {lv : Nat → Nat → Int64} {i : Nat} {C P : Cd} {o c op : Nat} (h : stM q b n iv lv i C P o c) (ht : tkF b n i ≠ 9999) (h20 : 20 ≤ op) (h24 : op ≤ 24) (v1 : Int32) : moP im lw tl q b n iv lv (.inr (1, (i + 1, (stl (bnd op) P C).1, (op, 0) :: (stl (bnd op) P C).2, o, c))) (bI (call X xT (d + 3) 256 [.inl (nI op)] (SS im lw tl, iv, lv)) (fun r4 h3 => run X (call X xT (d + 3)) false 1 xc255 82 [some (.inr (.inr (some 46))), some (.inl v1), some (.inl (nI op)), none] [.inl r4, .inr (.inr (some 46))] h3)) := by
  have hb : bnd op ≤ 6 := by unfold bnd; repeat' split <;> (try omega)
  obtain ⟨iv1, a1, a2, a3⟩ := m_stlS (X := X) (im := im) (lw := lw) (tl := tl) (d + 1) (m := bnd op) (by omega) h
  have hi := stM_lt h ht
  have pi := pInv_push (o' := o) (x := op) (y := 0) a2.2.2.1 hi h20 (by omega) (by omega) (by omega) (by omega) h.2.2.1.2.2.2.2.1
  have hn := (ntF_ok b n).2.2
  have hn4 := h.1.1.2.1
  have cl := pi.2.1
  have pl := pi.2.2.1
  rw [List.length_cons] at pl
  obtain ⟨iv2, b1, b2, b3, b4⟩ := m_pshA (X := X) (im := im) (lw := lw) (tl := tl) (d + 2) (x := op) (y := 0) a2.1 a2.2.1 (stM_cp a2) (by omega) h20 (by omega) (by omega) (fun z => by omega) (by omega)
  obtain ⟨iv3, lv3, d1, d2, d3, d4⟩ := m_nxA (X := X) (im := im) (lw := lw) (tl := tl) (d + 1) b2 b3 h.2.2.2 ht pi
  rw [m_binds X im lw tl (d + 2) iv lv op (by omega) h20, bI_some, sg255_82, a1, bV_some, sg255_85, b1, bV_some, sg255_91, d1, bV_some, sg255_95]
  exact ⟨iv3, lv3, rfl, d2, (a3.tr b4).tr d3, d4⟩
/-- a comparison: the token is taken, the pile settled, one pushed -/
theorem m_cmpS (d : Nat) {iv : Nat → Nat → Int32} {lv : Nat → Nat → Int64} {i : Nat} {C P : Cd} {o c op : Nat} (h : stM q b n iv lv i C P o c) (ht : tkF b n i ≠ 9999) (h25 : 25 ≤ op) (h27 : op ≤ 27) (v1 v3 : Int32) : moP im lw tl q b n iv lv (.inr (1, (i + 1, (stl 5 P C).1, (op, 0) :: (stl 5 P C).2, o, c))) (bV (call X xT (d + 3) 243 [.inr (.inr (some 46)), .inl (nI 1)] (SS im lw tl, iv, lv)) (fun h3 => run X (call X xT (d + 3)) false 1 xc255 227 [some (.inr (.inr (some 46))), some (.inl v1), some (.inl (nI op)), some (.inl v3)] [] h3)) := by
  have hi := stM_lt h ht
  obtain ⟨iv1, lv1, a1, a2, a3, a4⟩ := m_must1 (X := X) (im := im) (lw := lw) (tl := tl) d h ht
  obtain ⟨iv2, b1, b2, b3⟩ := m_stlS (X := X) (im := im) (lw := lw) (tl := tl) (d + 1) (m := 5) (by omega) a2
  have pi := pInv_push (o' := o) (x := op) (y := 0) (pInv_stl 5 h.2.2.1) hi (by omega) (by omega) (by omega) (by omega) (by omega) h.2.2.1.2.2.2.2.1
  obtain ⟨iv3, d1, d2, d3⟩ := m_psh (X := X) (im := im) (lw := lw) (tl := tl) (d + 2) (x := op) (y := 0) b2.1 b2.2.1 (stM_cp b2) pi b2.2.2.2
  rw [a1, bV_some, sg255_227, a2.2.1.1, if_pos n0z, b1, bV_some, sg255_239, d1, bV_some, sg255_245]
  exact ⟨iv3, lv1, rfl, d2, (a3.tr b3).tr d3, a4⟩
theorem m_bsum (d : Nat) {iv : Nat → Nat → Int32} {lv : Nat → Nat → Int64} {i : Nat} {C P : Cd} {o c : Nat} (h : stM q b n iv lv i C P o c) (test : Bool) (hr : rSum (tkF b n) test i C P o c ≠ .inl 99999) : moP im lw tl q b n iv lv (rSum (tkF b n) test i C P o c) (call X xT (d + 4) 255 [.inr (.inr (some 46)), .inl (b2i test)] (SS im lw tl, iv, lv)) := by
  have S := fun (c : Nat) (hc : c < 256) (hk : kd c = 3) => m_isS X im lw tl (d + 2) h.1 hc hk
  have F : ∀ {w : Nat}, tkF b n i ≠ w → ¬ decide (tkF b n i = w) = true := fun hw => by rw [decide_eq_false hw]; decide
  rw [tr255, S 43 (by omega) (by decide), bI_some, sg255_6, b2i_ite]
  unfold rSum at hr ⊢
  by_cases e1 : tkF b n i = 43
  · rw [if_pos (decide_eq_true e1), show opT (tkF b n i) = some 3 by rw [e1]; rfl]
    exact m_op d h (by omega) (by omega) (by omega) _
  rw [if_neg (F e1), S 45 (by omega) (by decide), bI_some, sg255_20, b2i_ite]
  by_cases e2 : tkF b n i = 45
  · rw [if_pos (decide_eq_true e2), show opT (tkF b n i) = some 4 by rw [e2]; rfl]
    exact m_op d h (by omega) (by omega) (by omega) _
  rw [if_neg (F e2), S 42 (by omega) (by decide), bI_some, sg255_34, b2i_ite]
  by_cases e3 : tkF b n i = 42
  · rw [if_pos (decide_eq_true e3), show opT (tkF b n i) = some 5 by rw [e3]; rfl]
    exact m_op d h (by omega) (by omega) (by omega) _
  rw [if_neg (F e3), S 47 (by omega) (by decide), bI_some, sg255_48, b2i_ite]
  by_cases e4 : tkF b n i = 47
  · rw [if_pos (decide_eq_true e4), show opT (tkF b n i) = some 6 by rw [e4]; rfl]
    exact m_op d h (by omega) (by omega) (by omega) _
  rw [if_neg (F e4), S 37 (by omega) (by decide), bI_some, sg255_62, b2i_ite]
  by_cases e5 : tkF b n i = 37
  · rw [if_pos (decide_eq_true e5), show opT (tkF b n i) = some 7 by rw [e5]; rfl]
    exact m_op d h (by omega) (by omega) (by omega) _
  have eo : opT (tkF b n i) = none := by
    unfold opT addT mulT
    rw [if_neg e1, if_neg e2]
    simp only
    rw [if_neg e3, if_neg e4, if_neg e5]
  rw [eo] at hr ⊢
  simp only at hr ⊢
  rw [if_neg (F e5), m_inner X im lw tl (d + 2) iv lv (stM_cp h), bI_some, sg255_101]
  have b32 : ∀ z, inn P = some z → z ≤ 32 ∧ 31 ≤ z := fun z hz => by
    unfold inn at hz
    cases hf : P.find? (fun x => decide (31 ≤ x.1)) with
    | none => rw [hf] at hz; cases hz
    | some y =>
      rw [hf] at hz
      injection hz with hz
      have hz : y.1 = z := hz
      have hm := List.mem_of_find?_eq_some hf
      have hp := List.find?_some hf
      have := ((stM_cp h).2.2.2.1 y hm).2.1
      simp at hp
      omega
  by_cases c32 : inn P = some 32
  · have eI : innI P = nI 32 := by unfold innI; rw [c32]
    rw [c32] at hr ⊢
    rw [eI, if_pos rfl, S 93 (by omega) (by decide), bI_some, sg255_115]
    simp only [if_true] at hr ⊢
    by_cases e9 : tkF b n i = 93
    · rw [if_pos e9] at hr ⊢
      rw [decide_eq_true e9]
      by_cases g : o = 0 ∨ (stl 5 P C).2 = []
      · rw [if_pos g] at hr; exact absurd rfl hr
      · rw [if_neg g]
        obtain ⟨iv1, lv1, a1, a2, a3, a4⟩ := m_must1 (X := X) (im := im) (lw := lw) (tl := tl) d h (by omega)
        obtain ⟨iv2, b1, b2, b3⟩ := m_stlS (X := X) (im := im) (lw := lw) (tl := tl) (d + 1) (m := 5) (by omega) a2
        obtain ⟨p1, p2⟩ := m_pop b2 (fun z => g (Or.inr z)) (fun z => g (Or.inl z))
        have a1 : call X xT (d + 3) 243 [.inr (.inr (some 46)), .inl (b2i true)] (SS im lw tl, iv, lv) = some (none, (SS im lw tl, iv1, lv1)) := a1
        rw [a1, bV_some, sg255_118, a2.2.1.1, if_pos n0z, b1, bV_some, sg255_130]
        exact ⟨_, lv1, rfl, p1, (a3.tr b3).tr p2, a4⟩
    · rw [if_neg e9] at hr ⊢
      rw [decide_eq_false e9]
      obtain ⟨b1, b2⟩ := stBad_of h
      have m0 : call X xT (d + 3) 243 [.inr (.inr (some 46)), .inl (b2i false)] (SS im lw tl, iv, lv) = _ := m_must0 (X := X) (im := im) (lw := lw) (tl := tl) (d + 2) lv h.2.1.1
      rw [m0, bV_some, sg255_118, b1.1, if_neg n1z]
      exact ⟨_, lv, _, rfl, b1, b2, frO.rf⟩
  · rw [if_neg c32] at hr ⊢
    -- the bracket, as a number
    generalize hiv : innI P = u
    unfold innI at hiv
    have u32 : ¬ u = nI 32 := by
      rw [← hiv]
      cases hin : inn P with
      | none => exact fun z => absurd z.symm (nI_m1 (by omega))
      | some z =>
        have := b32 z hin
        simp only
        intro y
        have := congrArg Int32.toNatClampNeg y
        rw [nI_clamp (by omega), nI_clamp (by omega)] at this
        apply c32; rw [hin, this]
    have um : u = -1 ↔ inn P = none := by
      rw [← hiv]
      cases hin : inn P with
      | none => exact ⟨fun _ => rfl, fun _ => rfl⟩
      | some z => exact ⟨fun y => absurd y (nI_m1 (by have := b32 z hin; omega)), fun y => by cases y⟩
    rw [if_neg u32]
    by_cases cn : inn P = none ∧ test = false
    · rw [if_pos cn, if_pos (um.mpr cn.1), if_pos (show b2i test = 0 by rw [cn.2]; decide)]
      exact ⟨iv, lv, rfl, h, frX.rf, frO.rf⟩
    rw [if_neg cn] at hr ⊢
    -- compared?
    have s167 : ∀ T, T = (if u = -1 then (if b2i test = 0 then some (some (.inl (nI 4)), (SS im lw tl, iv, lv)) else bI (call X xT (d + 3) 259 [.inr (.inr (some 46))] (SS im lw tl, iv, lv)) (fun r4 h3 => run X (call X xT (d + 3)) false 1 xc255 167 [some (.inr (.inr (some 46))), some (.inl (b2i test)), some (.inl (-1)), some (.inl u)] [.inl r4] h3)) else bI (call X xT (d + 3) 259 [.inr (.inr (some 46))] (SS im lw tl, iv, lv)) (fun r2 h1 => run X (call X xT (d + 3)) false 1 xc255 167 [some (.inr (.inr (some 46))), some (.inl (b2i test)), some (.inl (-1)), some (.inl u)] [.inl r2] h1)) → T = run X (call X xT (d + 3)) false 1 xc255 167 [some (.inr (.inr (some 46))), some (.inl (b2i test)), some (.inl (-1)), some (.inl u)] [.inl (b2i (isC P))] (SS im lw tl, iv, lv) := by
      intro T hT
      rw [hT]
      by_cases y : u = -1
      · have : test = true := by
          cases test with
          | true => rfl
          | false => exact absurd ⟨um.mp y, rfl⟩ cn
        rw [if_pos y, if_neg (show ¬ b2i test = 0 by rw [this]; decide), m_isCmp X im lw tl (d + 1) iv lv (stM_cp h), bI_some]
      · rw [if_neg y, m_isCmp X im lw tl (d + 1) iv lv (stM_cp h), bI_some]
    rw [s167 _ rfl, sg255_167, b2i_ite]
    by_cases ci : isC P = true
    · rw [if_pos ci, if_pos ci]
      exact ⟨iv, lv, rfl, h, frX.rf, frO.rf⟩
    rw [if_neg ci] at hr ⊢
    rw [if_neg ci, S 60 (by omega) (by decide), bI_some, sg255_178, b2i_ite]
    by_cases c1 : tkF b n i = 60
    · rw [if_pos (decide_eq_true c1), show cmpT (tkF b n i) = some 8 by rw [c1]; rfl]
      exact m_cmpS d h (by omega) (by omega) (by omega) _ _
    rw [if_neg (F c1), S 62 (by omega) (by decide), bI_some, sg255_192, b2i_ite]
    by_cases c2 : tkF b n i = 62
    · rw [if_pos (decide_eq_true c2), show cmpT (tkF b n i) = some 9 by rw [c2]; rfl]
      exact m_cmpS d h (by omega) (by omega) (by omega) _ _
    rw [if_neg (F c2), S 61 (by omega) (by decide), bI_some, sg255_216, b2i_ite]
    by_cases c3 : tkF b n i = 61
    · rw [if_pos (decide_eq_true c3), show cmpT (tkF b n i) = some 10 by rw [c3]; rfl]
      exact m_cmpS d h (by omega) (by omega) (by omega) _ _
    rw [if_neg (F c3), show cmpT (tkF b n i) = none by unfold cmpT; rw [if_neg c1, if_neg c2, if_neg c3]]
    obtain ⟨b1, b2⟩ := stBad_of h
    rw [m_must0 (X := X) (im := im) (lw := lw) (tl := tl) (d + 2) lv h.2.1.1, bV_some, sg255_227, b1.1, if_neg n1z, sg255_245]
    exact ⟨_, lv, _, rfl, b1, b2, frO.rf⟩
end mw
