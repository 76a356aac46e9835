/-! the reference reads an order, a text of orders -/
theorem sg308_43X (X : XE) (cl : XCl) (S : List XC) (iv : Nat → Nat → Int32) (lv : Nat → Nat → Int64) : run X cl false 1 xc308 43 [some (.inr (.inr (some 46))), none, none, none] [] (S, iv, lv) = run X cl false 1 xc308 19 [some (.inr (.inr (some 46))), none, none, none] [] (S, iv, lv) := seg_of (chk_pos xk308) [15, 19, 32, 39, 43, 50, 63, 70, 77, 104, 140, 150, 174, 182, 193, 214] 400 rfl
section op
variable {X : XE} {im lw : List (Option Nat)} {tl : List XC} {q : Bool} {b : Nat → Nat} {n : Nat}
theorem m_headO (d : Nat) {iv : Nat → Nat → Int32} {lv : Nat → Nat → Int64} {i : Nat} (h : lexM b n i iv lv) (hc : constM lv) : call X xT (d + 4) 309 [.inr (.inr (some 46))] (SS im lw tl, iv, lv) = run X (call X xT (d + 3)) false 0 xc309 4 [some (.inr (.inr (some 46))), some (.inl (hdV hOr (tkF b n i) 4)), some (.inl (nI 4)), none] [] (SS im lw tl, iv, lv) := by
  have loop : ∀ (k j : Nat), j + k = 4 → run X (call X xT (d + 3)) false 0 xc309 4 [some (.inr (.inr (some 46))), some (.inl (hdV hOr (tkF b n i) j)), some (.inl (nI j)), none] [] (SS im lw tl, iv, lv) = run X (call X xT (d + 3)) false 0 xc309 4 [some (.inr (.inr (some 46))), some (.inl (hdV hOr (tkF b n i) 4)), some (.inl (nI 4)), none] [] (SS im lw tl, iv, lv) := by
    intro k
    induction k with
    | zero => intro j hj; rw [show j = 4 by omega]
    | succ k ih =>
      intro j hj
      obtain ⟨k1, k2⟩ := hOr_k j (by omega)
      rw [sg309_4, if_neg (nI_ge (by omega) (by omega)), if_pos (inb_nI (by omega) (by omega)), nI_clamp (by omega), hc.2.2.2 j (by omega), ← k1, m_isW X im lw tl (d + 2) h k2, bI_some, sg309_19, b2i_ite, nI_add]
      have nx := ih (j + 1) (by omega)
      have e : hdV hOr (tkF b n i) (j + 1) = if tkF b n i = hOr.getD j 0 then nI j else hdV hOr (tkF b n i) j := rfl
      rw [e] at nx
      by_cases q : tkF b n i = hOr.getD j 0
      · rw [if_pos (decide_eq_true q)]; rw [if_pos q] at nx; exact nx
      · rw [if_neg (show ¬ decide (tkF b n i = hOr.getD j 0) = true by rw [decide_eq_false q]; decide)]; rw [if_neg q] at nx; exact nx
  rw [tr309]
  exact loop 4 0 (by omega)
/-- a whole sum of an order, between two marks -/
theorem m_osum (d : Nat) {iv : Nat → Nat → Int32} {lv : Nat → Nat → Int64} {i : Nat} {C : Cd} {c a : Nat} (ha : a + 1 < 96) (h : stEx q b n iv lv i C c) : (∀ e, pSum q (tkF b n) 8 c i = .inl e → ∃ iv' lv', call X xT (d + 8) 310 [.inr (.inr (some 46)), .inl (nI a)] (SS im lw tl, iv, lv) = some (none, (SS im lw tl, iv', lv')) ∧ badM b n iv' e ∧ frY iv iv' ∧ frO lv lv') ∧ ∀ x c' i', pSum q (tkF b n) 8 c i = .inr (x, c', i') → ∃ iv' lv', call X xT (d + 8) 310 [.inr (.inr (some 46)), .inl (nI a)] (SS im lw tl, iv, lv) = some (none, (SS im lw tl, iv', lv')) ∧ stEx q b n iv' lv' i' (C ++ x.2.1) c' ∧ frY iv iv' ∧ frO lv lv' ∧ iv' 46 21 = iv 46 21 ∧ iv' 77 a = nI C.length ∧ iv' 77 (a + 1) = nI (C ++ x.2.1).length ∧ ∀ k, k ≠ a → k ≠ a + 1 → iv' 77 k = iv 77 k := by
  have z1 : ∀ x k, x ≠ 77 → (upd2 iv 77 a (nI C.length)) x k = iv x k := fun x k hx => upd2_ne _ _ _ _ (by omega)
  have st1 : stEx q b n (upd2 iv 77 a (nI C.length)) lv i C c := stEx_fr h (fun x k hk => z1 x k (by omega))
  have p := m_exprS (X := X) (im := im) (lw := lw) (tl := tl) d st1
  have e0 : call X xT (d + 8) 310 [.inr (.inr (some 46)), .inl (nI a)] (SS im lw tl, iv, lv) = bV (call X xT (d + 7) 244 [.inr (.inr (some 46)), .inl (nI 0)] (SS im lw tl, upd2 iv 77 a (nI C.length), lv)) (fun h1 => run X (call X xT (d + 7)) false 0 xc310 22 [some (.inr (.inr (some 46))), some (.inl (nI a))] [] h1) := by
    rw [tr310, if_pos (inb_nI (by omega) (by omega)), h.2.1.1, if_pos n0z, nI_clamp (by omega), h.2.2.2.1]
  refine ⟨fun e he => ?_, fun x c' i' he => ?_⟩
  · rw [he] at p
    obtain ⟨iv2, lv2, p1, p2, p3, p4, p5, p6⟩ := p
    rw [e0, p1, bV_some, sg310_22, nI_add, if_pos (inb_nI (by omega) (by omega))]
    exact ⟨_, lv2, rfl, bad77 ⟨p2, p3⟩ _ _, ((frY_77 _ _ _).tr p5.Y).tr (frY_77 _ _ _), p6⟩
  · rw [he] at p
    obtain ⟨iv2, lv2, p1, p2, p3, p4⟩ := p
    have p2 : stEx q b n iv2 lv2 i' (C ++ x.2.1) c' := p2
    rw [e0, p1, bV_some, sg310_22, nI_add, if_pos (inb_nI (by omega) (by omega)), nI_clamp (by omega), p2.2.2.2.1]
    refine ⟨_, lv2, rfl, stEx_fr p2 (fun x k hk => upd2_ne _ _ _ _ (by omega)), ((frY_77 _ _ _).tr p3.Y).tr (frY_77 _ _ _), p4, ?_, ?_, upd2_self _ _ _ _, fun k h1 h2 => ?_⟩
    · rw [upd2_off _ _ _ _ (by decide), p3 46 21 (by omega), z1 46 21 (by decide)]
    · rw [upd2_ne _ _ _ _ (by omega), p3 77 a (by omega), upd2_self]
    · rw [upd2_ne _ _ _ _ (by omega), p3 77 k (by omega), upd2_ne _ _ _ _ (by omega)]
theorem m_osumB (d : Nat) {iv : Nat → Nat → Int32} {lv : Nat → Nat → Int64} {e a : Nat} (ha : a + 1 < 96) (h : badM b n iv e) : ∃ iv', call X xT (d + 1) 310 [.inr (.inr (some 46)), .inl (nI a)] (SS im lw tl, iv, lv) = some (none, (SS im lw tl, iv', lv)) ∧ badM b n iv' e ∧ frY iv iv' := by
  rw [tr310, if_pos (inb_nI (by omega) (by omega)), h.1, if_neg n1z, sg310_22, nI_add, if_pos (inb_nI (by omega) (by omega))]
  exact ⟨_, rfl, bad77 (bad77 h _ _) _ _, (frY_77 _ _ _).tr (frY_77 _ _ _)⟩
theorem m_ord1 (d : Nat) {iv : Nat → Nat → Int32} {lv : Nat → Nat → Int64} {i : Nat} {gs : List GC} {c : Nat} (hm : gs.length ≤ 12) (h : stEx q b n iv lv i (cMA gs) c) (h21 : iv 46 21 = nI gs.length) (hr : rowsO iv gs) : moC im lw tl b n iv lv (if gs.length < 12 then pOrd q (tkF b n) c i else .inl i) (QO q b n gs) (call X xT (d + 9) 309 [.inr (.inr (some 46))] (SS im lw tl, iv, lv)) := by
  rw [m_headO (X := X) (im := im) (lw := lw) (tl := tl) (d + 5) h.1 h.2.2.2.2.2.1, sg309_4, if_pos (nI_le (by omega) (by omega)), hdV_o]
  have fail : ∀ v1 v2 : Int32, ∀ T, T = bV (call X xT (d + 8) 243 [.inr (.inr (some 46)), .inl (nI 0)] (SS im lw tl, iv, lv)) (fun h1 => run X (call X xT (d + 8)) false 0 xc309 57 [some (.inr (.inr (some 46))), some (.inl v1), some (.inl v2), none] [] h1) → ∃ iv' lv', T = some (none, (SS im lw tl, iv', lv')) ∧ badM b n iv' i ∧ frY iv iv' ∧ frO lv lv' := by
    intro v1 v2 T hT
    obtain ⟨b1, b2⟩ := bad0 h
    rw [m_must0 (X := X) (im := im) (lw := lw) (tl := tl) (d + 7) lv h.2.1.1, bV_some, sg309_57, b1.1, if_neg n1z] at hT
    exact ⟨_, lv, hT, b1, b2, frO.rf⟩
  have trc : ∀ {iv1 : Nat → Nat → Int32} {lv1 : Nat → Nat → Int64} {r : Rd GC} {T : Option XR}, frY iv iv1 → frO lv lv1 → moC im lw tl b n iv1 lv1 r (QO q b n gs) T → moC im lw tl b n iv lv r (QO q b n gs) T := by
    intro iv1 lv1 r T f1 f2 hT
    cases r with
    | inl e => obtain ⟨x, y, t1, t2, t3, t4⟩ := hT; exact ⟨x, y, t1, t2, f1.tr t3, f2.tr t4⟩
    | inr e => obtain ⟨x, y, t1, t2, t3, t4⟩ := hT; exact ⟨x, y, t1, t2, f1.tr t3, f2.tr t4⟩
  unfold pOrd
  by_cases hk : 2004 ≤ tkF b n i ∧ tkF b n i ≤ 2007
  · rw [if_pos hk, if_pos hk, if_neg (nI_m1 (by omega)), h21]
    by_cases h12 : gs.length < 12
    · rw [if_pos h12, if_neg (nI_ge h12 (by omega))]
      obtain ⟨iv1, lv1, a1, a2, a3, a4⟩ := m_mustE1 (X := X) (im := im) (lw := lw) (tl := tl) (d + 5) h (by omega)
      have h211 : iv1 46 21 = nI gs.length := by rw [a3 46 21 (by omega)]; exact h21
      rw [a1, bV_some, sg309_57, a2.2.1.1, if_pos n0z, h211, pk_mul, nI_add]
      have clr : ∀ (k j : Nat) (iv : Nat → Nat → Int32), j + k = 8 → ∃ iv', run X (call X xT (d + 8)) false 0 xc309 85 [some (.inr (.inr (some 46))), some (.inl (nI (tkF b n i - 2004))), some (.inl (nI (8 * gs.length))), some (.inl (nI j))] [] (SS im lw tl, iv, lv1) = run X (call X xT (d + 8)) false 0 xc309 85 [some (.inr (.inr (some 46))), some (.inl (nI (tkF b n i - 2004))), some (.inl (nI (8 * gs.length))), some (.inl (nI 8))] [] (SS im lw tl, iv', lv1) ∧ fr [77] iv iv' ∧ (∀ z, z < 8 * gs.length + j → iv' 77 z = iv 77 z) ∧ ∀ z, 8 * gs.length + j ≤ z → z < 8 * gs.length + 8 → iv' 77 z = nI 0 := by
        intro k
        induction k with
        | zero => intro j iv hj; exact ⟨iv, by rw [show j = 8 by omega], fun _ _ => rfl, fun _ _ => rfl, fun z h1 h2 => by omega⟩
        | succ k ih =>
          intro j iv hj
          obtain ⟨iv', r1, r2, r3, r4⟩ := ih (j + 1) (upd2 iv 77 (8 * gs.length + j) (nI 0)) (by omega)
          refine ⟨iv', ?_, (fr_upd _ _ _ (by simp)).tr r2, fun z hz => by rw [r3 z (by omega), upd2_ne _ _ _ _ (by omega)], fun z h1 h2 => ?_⟩
          · rw [sg309_85, if_neg (nI_ge (by omega) (by omega)), nI_add, nI_add, if_pos (inb_nI (by omega) (by omega)), nI_clamp (by omega)]
            exact r1
          · by_cases e : z = 8 * gs.length + j
            · rw [r3 z (by omega), e, upd2_self]
            · exact r4 z (by omega) h2
      obtain ⟨iv2, b1, b2, b3, b4⟩ := clr 8 0 (upd2 iv1 46 21 (nI (gs.length + 1))) (by omega)
      have b1 : run X (call X xT (d + 8)) false 0 xc309 85 [some (.inr (.inr (some 46))), some (.inl (nI (tkF b n i - 2004))), some (.inl (nI (8 * gs.length))), some (.inl (nI 0))] [] (SS im lw tl, upd2 iv1 46 21 (nI (gs.length + 1)), lv1) = _ := b1
      rw [b1, sg309_85, if_pos (nI_le (by omega) (by omega)), if_pos (inb_nI (by omega) (by omega)), nI_clamp (by omega)]
      generalize hg : upd2 iv2 77 (8 * gs.length) (nI (tkF b n i - 2004)) = iv3
      have z3 : ∀ a k, a ≠ 77 → (a = 46 → k ≠ 21) → iv3 a k = iv1 a k := fun a k ha hk => by
        rw [← hg, upd2_ne _ _ _ _ (by omega), b2 a (by simp; exact ha), upd2_ne _ _ _ _ (by omega)]
      have c21 : iv3 46 21 = nI (gs.length + 1) := by rw [← hg, upd2_off _ _ _ _ (by decide), b2 46 (by decide), upd2_self]
      have c0 : iv3 77 (8 * gs.length) = nI (tkF b n i - 2004) := by rw [← hg, upd2_self]
      have cz : ∀ k, 1 ≤ k → k < 8 → iv3 77 (8 * gs.length + k) = nI 0 := fun k h1 h2 => by rw [← hg, upd2_ne _ _ _ _ (by omega), b4 _ (by omega) (by omega)]
      have cl : ∀ z, z < 8 * gs.length → iv3 77 z = iv 77 z := fun z hz => by
        rw [← hg, upd2_ne _ _ _ _ (by omega), b3 z (by omega), upd2_off _ _ _ _ (by decide), a3 77 z (by omega)]
      have st3 : stEx q b n iv3 lv1 (i + 1) (cMA gs) c := stEx_fr a2 (fun a k hk => z3 a k (by omega) (by omega))
      have f3 : frY iv iv3 := a3.Y.tr (fun a k hk => z3 a k (by omega) (by omega))
      have hr3 : rowsO iv3 gs := fun j g hj k hk => by
        have : j < gs.length := (List.getElem?_eq_some_iff.mp hj).1
        rw [cl _ (by omega)]; exact hr j g hj k hk
      by_cases e3 : tkF b n i = 2007
      · rw [if_pos (show nI (tkF b n i - 2004) = nI 3 by rw [e3]), if_pos e3]
        refine trc f3 a4 (m_ordT d (e1 := none) (e2 := none) (kind := 3) h12 ?_ c21 hr3 (fun k hk g g1 g2 g3 => ?_) _ _)
        · show stEx q b n iv3 lv1 (i + 1) (cMA gs ++ [] ++ []) c
          rw [List.append_nil, List.append_nil]; exact st3
        · unfold orow
          by_cases k0 : k = 0
          · rw [if_pos k0, k0, g1]; exact c0.trans (by rw [e3])
          · rw [if_neg k0, if_neg (by omega), if_neg (by omega), if_neg (by omega), if_pos g1]
            exact cz k (by omega) (by omega)
      · have ne : ¬ nI (tkF b n i - 2004) = nI 3 := fun z => by have := congrArg Int32.toNatClampNeg z; rw [nI_clamp (by omega), nI_clamp (by omega)] at this; omega
        rw [if_neg ne, if_neg e3, nI_add]
        obtain ⟨s1, s2⟩ := m_osum (X := X) (im := im) (lw := lw) (tl := tl) d (a := 8 * gs.length + 1) (by omega) st3
        -- behind a first sum that failed
        have bad1 : ∀ (iv4 : Nat → Nat → Int32) (lv4 : Nat → Nat → Int64) (e : Nat), badM b n iv4 e → frY iv iv4 → frO lv lv4 → ∀ v1 v3 : Int32, ∃ iv' lv', run X (call X xT (d + 8)) false 0 xc309 153 [some (.inr (.inr (some 46))), some (.inl v1), some (.inl (nI (8 * gs.length))), some (.inl v3)] [] (SS im lw tl, iv4, lv4) = some (none, (SS im lw tl, iv', lv')) ∧ badM b n iv' e ∧ frY iv iv' ∧ frO lv lv' := by
          intro iv4 lv4 e hb hf ho v1 v3
          obtain ⟨iv5, r1, r2, r3⟩ := m_osumB (X := X) (im := im) (lw := lw) (tl := tl) (d + 7) (lv := lv4) (a := 8 * gs.length + 3) (by omega) hb
          obtain ⟨iv6, t1, t2, t3⟩ := m_160B (X := X) (im := im) (lw := lw) (tl := tl) (lv := lv4) (call X xT (d + 8)) h12 r2 v1 v3
          rw [sg309_153, nI_add, r1, bV_some, t1]
          exact ⟨iv6, lv4, rfl, t2, (hf.tr r3).tr t3, ho⟩
        cases hp : pSum q (tkF b n) 8 c (i + 1) with
        | inl e =>
          obtain ⟨iv4, lv4, p1, p2, p3, p4⟩ := s1 e hp
          obtain ⟨iv5, lv5, r1, r2, r3, r4⟩ := bad1 iv4 lv4 e p2 (f3.tr p3) (a4.tr p4) (nI (tkF b n i - 2004)) (nI 8)
          rw [p1, bV_some, sg309_125, p2.1, if_neg n1z, r1]
          exact ⟨iv5, lv5, rfl, r2, r3, r4⟩
        | inr x =>
          obtain ⟨iv4, lv4, p1, p2, p3, p4, p5, p6, p7, p8⟩ := s2 x.1 x.2.1 x.2.2 hp
          rw [p1, bV_some, sg309_125, p2.2.1.1, if_pos n0z]
          -- the word between
          have mid : ∀ w, ((w = 2008 ∧ tkF b n i = 2004) ∨ (w = 2009 ∧ tkF b n i ≠ 2004)) → moC im lw tl b n iv lv (if tkF b n x.2.2 = (if tkF b n i = 2004 then 2008 else 2009) then thn (pSum q (tkF b n) 8 x.2.1 (x.2.2 + 1)) (fun e2 c2 i2 => thn (pTimes (tkF b n) c2 i2) (fun m c3 i3 => thn (pIf q (tkF b n) c3 i3) (fun t c4 i4 => .inr ((tkF b n i - 2004, m, some x.1, some e2, t), c4, i4)))) else .inl x.2.2) (QO q b n gs) (bI (call X xT (d + 8) 242 [.inr (.inr (some 46)), .inr (.inl (lN (hT w)))] (SS im lw tl, iv4, lv4)) (fun r4 h3 => run X (call X xT (d + 8)) false 0 xc309 150 [some (.inr (.inr (some 46))), some (.inl (nI (tkF b n i - 2004))), some (.inl (nI (8 * gs.length))), some (.inl (nI 8))] [.inl r4, .inr (.inr (some 46))] h3)) := by
            intro w hw
            have ew : (if tkF b n i = 2004 then 2008 else 2009) = w := by
              rcases hw with ⟨h1, h2⟩ | ⟨h1, h2⟩
              · rw [if_pos h2, h1]
              · rw [if_neg h2, h1]
            have kw : knT w := Or.inl (by omega)
            rw [ew, m_isW X im lw tl (d + 7) p2.1 kw, bI_some, sg309_150]
            by_cases et : tkF b n x.2.2 = w
            · rw [if_pos et, decide_eq_true et]
              obtain ⟨iv5, lv5, r1, r2, r3, r4⟩ := m_mustE1 (X := X) (im := im) (lw := lw) (tl := tl) (d + 5) p2 (by omega)
              have r1 : call X xT (d + 8) 243 [.inr (.inr (some 46)), .inl (b2i true)] (SS im lw tl, iv4, lv4) = some (none, (SS im lw tl, iv5, lv5)) := r1
              rw [r1, bV_some, sg309_153, nI_add]
              obtain ⟨u1, u2⟩ := m_osum (X := X) (im := im) (lw := lw) (tl := tl) d (a := 8 * gs.length + 3) (by omega) r2
              have f5 : frY iv iv5 := (f3.tr p3).tr r3.Y
              cases hp2 : pSum q (tkF b n) 8 x.2.1 (x.2.2 + 1) with
              | inl e =>
                obtain ⟨iv6, lv6, t1, t2, t3, t4⟩ := u1 e hp2
                obtain ⟨iv7, w1, w2, w3⟩ := m_160B (X := X) (im := im) (lw := lw) (tl := tl) (lv := lv6) (call X xT (d + 8)) h12 t2 (nI (tkF b n i - 2004)) (nI 8)
                rw [t1, bV_some, w1]
                exact ⟨iv7, lv6, rfl, w2, (f5.tr t3).tr w3, ((a4.tr p4).tr r4).tr t4⟩
              | inr y =>
                obtain ⟨iv6, lv6, t1, t2, t3, t4, t5, t6, t7, t8⟩ := u2 y.1 y.2.1 y.2.2 hp2
                rw [t1, bV_some]
                have hx5 : ∀ k, k ≠ 8 * gs.length + 3 → k ≠ 8 * gs.length + 4 → k ≠ 8 * gs.length + 1 → k ≠ 8 * gs.length + 2 → iv6 77 k = iv3 77 k := fun k h1 h2 h3 h4 => by rw [t8 k h1 h2, r3 77 k (by omega), p8 k h3 h4]
                refine trc (f5.tr t3) (((a4.tr p4).tr r4).tr t4) (m_ordT d (e1 := some x.1) (e2 := some y.1) (kind := tkF b n i - 2004) h12 t2 ?_ (fun j g hj k hk => ?_) (fun k hk g g1 g2 g3 => ?_) _ _)
                · rw [t5, r3 46 21 (by omega), p5]; exact c21
                · have : j < gs.length := (List.getElem?_eq_some_iff.mp hj).1
                  rw [hx5 _ (by omega) (by omega) (by omega) (by omega)]; exact hr3 j g hj k hk
                · unfold orow
                  rw [g2, g3]
                  have l1 : (cMA gs ++ x.1.2.1).length = (cMA gs).length + (eM (some x.1)).length := by rw [List.length_append]; rfl
                  have l2 : (cMA gs ++ x.1.2.1 ++ y.1.2.1).length = (cMA gs).length + (eM (some x.1)).length + (eM (some y.1)).length := by rw [List.length_append, l1]; rfl
                  have : k = 0 ∨ k = 1 ∨ k = 2 ∨ k = 3 ∨ k = 4 := by omega
                  rcases this with rfl | rfl | rfl | rfl | rfl
                  · rw [if_pos rfl, g1, Nat.add_zero, hx5 _ (by omega) (by omega) (by omega) (by omega)]; exact c0
                  · rw [if_neg (by decide), if_neg (by decide), if_neg (by decide), if_neg (by decide), if_neg (by omega), if_pos rfl, t8 _ (by omega) (by omega), r3 77 _ (by omega), p6]
                  · rw [if_neg (by decide), if_neg (by decide), if_neg (by decide), if_neg (by decide), if_neg (by omega), if_neg (by decide), if_neg (by decide), t8 _ (by omega) (by omega), r3 77 _ (by omega)]
                    rw [← l1]; exact p7
                  · rw [if_neg (by decide), if_neg (by decide), if_neg (by decide), if_neg (by decide), if_neg (by omega), if_neg (by decide), if_neg (by decide), t6, l1]
                  · rw [if_neg (by decide), if_neg (by decide), if_neg (by decide), if_neg (by decide), if_neg (by omega), if_neg (by decide), if_pos rfl]
                    rw [← l2]; exact t7
            · rw [if_neg et, decide_eq_false et]
              obtain ⟨b1, b2⟩ := bad0 p2
              have m0 : call X xT (d + 8) 243 [.inr (.inr (some 46)), .inl (b2i false)] (SS im lw tl, iv4, lv4) = _ := m_must0 (X := X) (im := im) (lw := lw) (tl := tl) (d + 7) lv4 p2.2.1.1
              obtain ⟨iv5, lv5, r1, r2, r3, r4⟩ := bad1 _ lv4 x.2.2 b1 ((f3.tr p3).tr b2) (a4.tr p4) (nI (tkF b n i - 2004)) (nI 8)
              rw [m0, bV_some, r1]
              exact ⟨iv5, lv5, rfl, r2, r3, r4⟩
          have h8 := hT_c.2.2.2.2.2.1
          have h9 := hT_c.2.2.2.2.2.2
          by_cases e4 : tkF b n i = 2004
          · rw [if_pos (show nI (tkF b n i - 2004) = 0 by rw [e4]; decide)]
            have := mid 2008 (Or.inl ⟨rfl, e4⟩)
            rw [h8] at this
            exact this
          · have nz : ¬ nI (tkF b n i - 2004) = 0 := fun z => by have := congrArg Int32.toNatClampNeg z; rw [nI_clamp (by omega)] at this; have : tkF b n i - 2004 = 0 := this; omega
            rw [if_neg nz]
            have := mid 2009 (Or.inr ⟨rfl, e4⟩)
            rw [h9] at this
            exact this
    · rw [if_neg h12, if_pos (nI_le (by omega) (by omega))]
      exact fail _ _ _ rfl
  · rw [if_neg hk, if_neg hk, if_pos rfl]
    have : (if gs.length < 12 then (.inl i : Rd GC) else .inl i) = .inl i := by split <;> rfl
    rw [this]
    exact fail _ _ _ rfl
theorem m_ordLoop (d : Nat) : ∀ (k : Nat) (gs : List GC) (c i : Nat) (iv : Nat → Nat → Int32) (lv : Nat → Nat → Int64), gs.length + k = 12 → stEx true b n iv lv i (cMA gs) c → iv 46 21 = nI gs.length → rowsO iv gs → ∃ iv' lv', bV (call X xT (d + 9) 309 [.inr (.inr (some 46))] (SS im lw tl, iv, lv)) (fun h1 => run X (call X xT (d + 9)) false 1 xc308 19 [some (.inr (.inr (some 46))), none, none, none] [] h1) = run X (call X xT (d + 9)) false 1 xc308 50 [some (.inr (.inr (some 46))), none, none, none] [] (SS im lw tl, iv', lv') ∧ moX b n rowsO iv' (pText true (tkF b n) k gs c i) ∧ iv' 46 20 = nI 0 ∧ iv' 46 13 = nI 0 ∧ frZ iv iv' ∧ frO lv lv' := by
  have badc : ∀ (iv iv1 : Nat → Nat → Int32) (lv lv1 : Nat → Nat → Int64) (e : Nat), badM b n iv1 e → frY iv iv1 → frO lv lv1 → ∃ iv' lv', run X (call X xT (d + 9)) false 1 xc308 19 [some (.inr (.inr (some 46))), none, none, none] [] (SS im lw tl, iv1, lv1) = run X (call X xT (d + 9)) false 1 xc308 50 [some (.inr (.inr (some 46))), none, none, none] [] (SS im lw tl, iv', lv') ∧ badM b n iv' e ∧ iv' 46 20 = nI 0 ∧ iv' 46 13 = nI 0 ∧ frZ iv iv' ∧ frO lv lv' := by
    intro iv iv1 lv lv1 e hb hf ho
    obtain ⟨iv2, a1, a2, a3, a4, a5⟩ := m_endB (X := X) (im := im) (lw := lw) (tl := tl) (d + 8) (lv := lv1) hb
    rw [sg308_19, hb.1, if_neg n1z, a1, bV_some]
    exact ⟨iv2, lv1, rfl, a5, a2, a3, hf.Z.tr a4, ho⟩
  intro k
  induction k with
  | zero =>
    intro gs c i iv lv hk h h21 hr
    have p := m_ord1 (X := X) (im := im) (lw := lw) (tl := tl) d (by omega) h h21 hr
    rw [if_neg (by omega)] at p
    obtain ⟨iv1, lv1, a1, a2, a3, a4⟩ := p
    rw [a1, bV_some]
    exact badc iv iv1 lv lv1 i a2 a3 a4
  | succ k ih =>
    intro gs c i iv lv hk h h21 hr
    have p := m_ord1 (X := X) (im := im) (lw := lw) (tl := tl) d (by omega) h h21 hr
    rw [if_pos (by omega)] at p
    unfold pText pCl
    rw [if_pos rfl]
    cases hp : pOrd true (tkF b n) c i with
    | inl e =>
      rw [hp] at p
      obtain ⟨iv1, lv1, a1, a2, a3, a4⟩ := p
      rw [a1, bV_some]
      exact badc iv iv1 lv lv1 e a2 a3 a4
    | inr x =>
      rw [hp] at p
      obtain ⟨iv1, lv1, a1, ⟨a2, a3, a4⟩, a5, a6⟩ := p
      rw [a1, bV_some, sg308_19, a2.2.1.1, if_pos n0z, m_isS X im lw tl (d + 8) a2.1 (c := 59) (by omega) (by decide), bI_some, sg308_32, b2i_ite]
      simp only
      by_cases e9 : tkF b n x.2.2 = 9999
      · rw [if_pos e9, if_neg (show ¬ decide (tkF b n x.2.2 = 59) = true by rw [decide_eq_false (by omega)]; decide)]
        obtain ⟨iv2, b1, b2, b3, b4, b5, b6⟩ := m_endT (X := X) (im := im) (lw := lw) (tl := tl) (d + 7) a2
        have z := b5 e9
        rw [b1, bV_some]
        have hn := (ntF_ok b n).2.2
        have hn4 := a2.1.1.2.1
        have hl := a2.2.2.2.2.2.2.2.1
        have hin := a2.2.2.2.2.2.2.1
        refine ⟨iv2, lv1, rfl, ⟨⟨by rw [z 46 19 (by omega)]; exact a2.2.1.1, by rw [z 46 18 (by omega)]; exact a2.2.1.2.1⟩, by rw [List.length_append, List.length_singleton]; omega, by rw [z 46 21 (by omega), List.length_append, List.length_singleton]; exact a3, by rw [z 46 23 (by omega)]; exact a2.2.2.2.1, by omega, fun j y hy => ?_, fun j g hj w hw => ?_⟩, b2, b3, a5.Z.tr b4, a6⟩
        · rw [z 57 j (by omega), z 58 j (by omega)]; exact a2.2.2.1 j y hy
        · rw [z 77 _ (by omega)]; exact a4 j g hj w hw
      · rw [if_neg e9]
        by_cases es : tkF b n x.2.2 = 59
        · rw [if_pos es, if_pos (decide_eq_true es)]
          obtain ⟨iv2, lv2, b1, b2, b3, b4⟩ := m_nxE (X := X) (im := im) (lw := lw) (tl := tl) (d + 7) a2 (by omega)
          rw [b1, bV_some, sg308_39]
          obtain ⟨iv3, lv3, d1, d2, d3, d4, d5, d6⟩ := ih (gs ++ [x.1]) x.2.1 (x.2.2 + 1) iv2 lv2 (by rw [List.length_append, List.length_singleton]; omega) b2 (by rw [b3 46 21 (by omega), List.length_append, List.length_singleton]; exact a3) (fun j g hj w hw => by rw [b3 77 _ (by omega)]; exact a4 j g hj w hw)
          refine ⟨iv3, lv3, ?_, d2, d3, d4, (a5.Z.tr b3.Y.Z).tr d5, (a6.tr b4).tr d6⟩
          rw [← d1]
          congr 1
          funext hh
          obtain ⟨S, v, l⟩ := hh
          exact sg308_43X X _ S v l
        · rw [if_neg es, if_neg (show ¬ decide (tkF b n x.2.2 = 59) = true by rw [decide_eq_false es]; decide)]
          obtain ⟨iv2, b1, b2, b3, b4, b5, b6⟩ := m_endT (X := X) (im := im) (lw := lw) (tl := tl) (d + 7) a2
          rw [b1, bV_some]
          exact ⟨iv2, lv1, rfl, b6 e9, b2, b3, a5.Z.tr b4, a6⟩
end op
