/-! the reference reads an order -/
def orow (g : GC) (n k : Nat) : Int32 := if k = 0 then nI g.1 else if k = 7 then nI g.2.1 else if k = 5 then nI (n + (eM g.2.2.1).length + (eM g.2.2.2.1).length) else if k = 6 then nI (n + (eM g.2.2.1).length + (eM g.2.2.2.1).length + (tM g.2.2.2.2 (n + (eM g.2.2.1).length + (eM g.2.2.2.1).length)).length) else if g.1 = 3 then nI 0 else if k = 1 then nI n else if k = 4 then nI (n + (eM g.2.2.1).length + (eM g.2.2.2.1).length) else nI (n + (eM g.2.2.1).length)
def rowsO (iv : Nat → Nat → Int32) (gs : List GC) : Prop := ∀ j g, gs[j]? = some g → ∀ k, k < 8 → iv 77 (8 * j + k) = orow g (cMA (gs.take j)).length k
theorem rowsO_snoc {iv iv' : Nat → Nat → Int32} {gs : List GC} {g : GC} (h : rowsO iv gs) (h1 : ∀ k, k < 8 * gs.length → iv' 77 k = iv 77 k) (h2 : ∀ k, k < 8 → iv' 77 (8 * gs.length + k) = orow g (cMA gs).length k) : rowsO iv' (gs ++ [g]) := by
  intro j x hx k hk
  by_cases e : j < gs.length
  · rw [List.getElem?_append_left e] at hx
    rw [h1 _ (by omega), List.take_append_of_le_length (by omega)]
    exact h j x hx k hk
  · have hj : j < (gs ++ [g]).length := (List.getElem?_eq_some_iff.mp hx).1
    rw [List.length_append, List.length_singleton] at hj
    have : j = gs.length := by omega
    subst this
    rw [List.getElem?_append_right (by omega), Nat.sub_self] at hx
    injection hx with hx
    rw [List.take_append_of_le_length (by omega), List.take_length, ← hx]
    exact h2 k hk
section oo
variable {X : XE} {im lw : List (Option Nat)} {tl : List XC} {q : Bool} {b : Nat → Nat} {n : Nat}
def QO (q : Bool) (b : Nat → Nat) (n : Nat) (gs : List GC) (g : GC) (c i : Nat) (iv : Nat → Nat → Int32) (lv : Nat → Nat → Int64) : Prop := stEx q b n iv lv i (cMA (gs ++ [g])) c ∧ iv 46 21 = nI (gs.length + 1) ∧ rowsO iv (gs ++ [g])
theorem m_numE (d : Nat) {iv : Nat → Nat → Int32} {lv : Nat → Nat → Int64} {i : Nat} {C : Cd} {c lo hi : Nat} (hlo : lo ≤ 1000) (hhi : hi ≤ 1000) (h : stEx q b n iv lv i C c) : (∀ v, numT (tkF b n i) = some v → lo ≤ v → v ≤ hi → ∃ iv' lv', call X xT (d + 4) 254 [.inr (.inr (some 46)), .inr (.inl (lN lo)), .inr (.inl (lN hi))] (SS im lw tl, iv, lv) = some (some (.inl (nI v)), (SS im lw tl, iv', lv')) ∧ stEx q b n iv' lv' (i + 1) C c ∧ frX iv iv' ∧ frO lv lv') ∧ ((∀ v, numT (tkF b n i) = some v → ¬ (lo ≤ v ∧ v ≤ hi)) → ∃ iv' x, call X xT (d + 4) 254 [.inr (.inr (some 46)), .inr (.inl (lN lo)), .inr (.inl (lN hi))] (SS im lw tl, iv, lv) = some (some (.inl x), (SS im lw tl, iv', lv)) ∧ badM b n iv' i ∧ frY iv iv') := by
  have dg := m_dig h.1
  refine ⟨fun v hv h1 h2 => ?_, fun hv => ?_⟩
  · rcases dg with ⟨u, g1, g2, g3, g4⟩ | ⟨g1, -⟩
    · rw [hv] at g1; injection g1 with g1; subst g1
      have ht : tkF b n i ≠ 9999 := by have := (numT_ok hv).2; omega
      obtain ⟨iv1, lv1, a1, a2, a3, a4⟩ := m_mustE1 (X := X) (im := im) (lw := lw) (tl := tl) d h ht
      rw [tr254, g2, if_pos rfl, g3, m_in X (d + 2), bI_some, sg254_25, b2i_ite, if_pos (decide_eq_true ⟨(lN_le (by omega) (by omega)).mpr h1, (lN_le (by omega) (by omega)).mpr h2⟩), a1, bV_some, sg254_36, lN_i]
      exact ⟨iv1, lv1, rfl, a2, a3, a4⟩
    · rw [hv] at g1; cases g1
  · obtain ⟨b1, b2⟩ := bad0 h
    have m0 := m_must0 (X := X) (im := im) (lw := lw) (tl := tl) (d + 2) lv h.2.1.1
    refine ⟨_, (lv 46 17).toInt32, ?_, b1, b2⟩
    rw [tr254]
    rcases dg with ⟨u, g1, g2, g3, g4⟩ | ⟨g1, g2 | ⟨g2, u, g3, g4, g5⟩⟩
    · have := hv u g1
      rw [g2, if_pos rfl, g3, m_in X (d + 2), bI_some, sg254_25, b2i_ite, if_neg (by rw [decide_eq_false (fun z => this ⟨(lN_le (by omega) (by omega)).mp z.1, (lN_le (by omega) (by omega)).mp z.2⟩)]; decide), m0, bV_some, sg254_36]
    · rw [if_neg g2, m0, bV_some, sg254_36]
    · rw [g2, if_pos rfl, g3, m_in X (d + 2), bI_some, sg254_25, b2i_ite, if_neg (by rw [decide_eq_false (fun z => by have := (lN_le (by omega) (by omega)).mp z.2; omega)]; decide), m0, bV_some, sg254_36]
/-- its last row's end, where it has failed -/
theorem m_246B (cl : XCl) {iv : Nat → Nat → Int32} {lv : Nat → Nat → Int64} {e m : Nat} (hm : m < 12) (h : badM b n iv e) (v1 v3 : Int32) : ∃ iv', run X cl false 0 xc309 246 [some (.inr (.inr (some 46))), some (.inl v1), some (.inl (nI (8 * m))), some (.inl v3)] [] (SS im lw tl, iv, lv) = some (none, (SS im lw tl, iv', lv)) ∧ badM b n iv' e ∧ frY iv iv' := by
  rw [sg309_246, nI_add, if_pos (inb_nI (by omega) (by omega))]
  exact ⟨_, rfl, ⟨by rw [upd2_off _ _ _ _ (by decide)]; exact h.1, by rw [upd2_off _ _ _ _ (by decide)]; exact h.2⟩, frY_77 _ _ _⟩
theorem bad77 {iv : Nat → Nat → Int32} {e : Nat} (h : badM b n iv e) (k : Nat) (v : Int32) : badM b n (upd2 iv 77 k v) e := ⟨by rw [upd2_off _ _ _ _ (by decide)]; exact h.1, by rw [upd2_off _ _ _ _ (by decide)]; exact h.2⟩
theorem m_160B (cl : XCl) {iv : Nat → Nat → Int32} {lv : Nat → Nat → Int64} {e m : Nat} (hm : m < 12) (h : badM b n iv e) (v1 v3 : Int32) : ∃ iv', run X cl false 0 xc309 160 [some (.inr (.inr (some 46))), some (.inl v1), some (.inl (nI (8 * m))), some (.inl v3)] [] (SS im lw tl, iv, lv) = some (none, (SS im lw tl, iv', lv)) ∧ badM b n iv' e ∧ frY iv iv' := by
  rw [sg309_160, nI_add, if_pos (inb_nI (by omega) (by omega)), h.1, if_neg n1z, nI_add, if_pos (inb_nI (by omega) (by omega)), if_neg n1z]
  obtain ⟨iv', a1, a2, a3⟩ := m_246B (X := X) (im := im) (lw := lw) (tl := tl) (lv := lv) cl hm (bad77 (bad77 h (nI (8 * m + 7)).toNatClampNeg (nI 1)) (nI (8 * m + 5)).toNatClampNeg (iv 46 23)) v1 v3
  exact ⟨iv', a1, a2, ((frY_77 _ _ _).tr (frY_77 _ _ _)).tr a3⟩
/-- from the times on -/
theorem m_ordT (d : Nat) {iv : Nat → Nat → Int32} {lv : Nat → Nat → Int64} {i : Nat} {gs : List GC} {c kind : Nat} {e1 e2 : Option Ex} (hm : gs.length < 12) (h : stEx q b n iv lv i (cMA gs ++ eM e1 ++ eM e2) c) (h21 : iv 46 21 = nI (gs.length + 1)) (hr : rowsO iv gs) (hk : ∀ k, k < 5 → ∀ g : GC, g.1 = kind → g.2.2.1 = e1 → g.2.2.2.1 = e2 → iv 77 (8 * gs.length + k) = orow g (cMA gs).length k) (v1 v3 : Int32) : moC im lw tl b n iv lv (thn (pTimes (tkF b n) c i) (fun m c1 i1 => thn (pIf q (tkF b n) c1 i1) (fun t c2 i2 => .inr ((kind, m, e1, e2, t), c2, i2)))) (QO q b n gs) (run X (call X xT (d + 8)) false 0 xc309 160 [some (.inr (.inr (some 46))), some (.inl v1), some (.inl (nI (8 * gs.length))), some (.inl v3)] [] (SS im lw tl, iv, lv)) := by
  have trc : ∀ {iv1 : Nat → Nat → Int32} {lv1 : Nat → Nat → Int64} {r : Rd GC} {T : Option XR}, frY iv iv1 → frO lv lv1 → moC im lw tl b n iv1 lv1 r (QO q b n gs) T → moC im lw tl b n iv lv r (QO q b n gs) T := by
    intro iv1 lv1 r T f1 f2 hT
    cases r with
    | inl e => obtain ⟨x, y, t1, t2, t3, t4⟩ := hT; exact ⟨x, y, t1, t2, f1.tr t3, f2.tr t4⟩
    | inr e => obtain ⟨x, y, t1, t2, t3, t4⟩ := hT; exact ⟨x, y, t1, t2, f1.tr t3, f2.tr t4⟩
  have hCl : (cMA gs ++ eM e1 ++ eM e2).length = (cMA gs).length + (eM e1).length + (eM e2).length := by rw [List.length_append, List.length_append]
  -- the test and the end
  have tst : ∀ (iv1 : Nat → Nat → Int32) (lv1 : Nat → Nat → Int64) (c1 i1 m : Nat), stEx q b n iv1 lv1 i1 (cMA gs ++ eM e1 ++ eM e2) c1 → frY iv iv1 → frO lv lv1 → iv1 46 21 = nI (gs.length + 1) → (∀ k, k < 8 * gs.length + 5 → iv1 77 k = iv 77 k) → iv1 77 (8 * gs.length + 7) = nI m → iv1 77 (8 * gs.length + 5) = nI (cMA gs ++ eM e1 ++ eM e2).length → moC im lw tl b n iv lv (thn (pIf q (tkF b n) c1 i1) (fun t c2 i2 => .inr ((kind, m, e1, e2, t), c2, i2))) (QO q b n gs) (bI (call X xT (d + 8) 242 [.inr (.inr (some 46)), .inr (.inl (lN 294))] (SS im lw tl, iv1, lv1)) (fun r2 h1 => run X (call X xT (d + 8)) false 0 xc309 234 [some (.inr (.inr (some 46))), some (.inl v1), some (.inl (nI (8 * gs.length))), some (.inl v3)] [.inl r2] h1)) := by
    intro iv1 lv1 c1 i1 m st f1 o1 g21 glo g7 g5
    have w := m_isW X im lw tl (d + 7) st.1 (t := 2011) (Or.inl (by omega))
    rw [hT_c.2.2.2.1] at w
    rw [w, bI_some, sg309_234, b2i_ite]
    have fin : ∀ (iv2 : Nat → Nat → Int32) (lv2 : Nat → Nat → Int64) (t : Option Te) (c2 i2 : Nat), stEx q b n iv2 lv2 i2 (cMA gs ++ eM e1 ++ eM e2 ++ tM t (cMA gs ++ eM e1 ++ eM e2).length) c2 → frX iv1 iv2 → frO lv1 lv2 → ∃ iv' lv', run X (call X xT (d + 8)) false 0 xc309 246 [some (.inr (.inr (some 46))), some (.inl v1), some (.inl (nI (8 * gs.length))), some (.inl v3)] [] (SS im lw tl, iv2, lv2) = some (none, (SS im lw tl, iv', lv')) ∧ QO q b n gs (kind, m, e1, e2, t) c2 i2 iv' lv' ∧ frY iv iv' ∧ frO lv lv' := by
      intro iv2 lv2 t c2 i2 hs hf ho
      have h23 : iv2 46 23 = nI (cMA gs ++ eM e1 ++ eM e2 ++ tM t (cMA gs ++ eM e1 ++ eM e2).length).length := hs.2.2.2.1
      rw [sg309_246, nI_add, if_pos (inb_nI (by omega) (by omega)), nI_clamp (by omega), h23]
      have y77 : ∀ k, (upd2 iv2 77 (8 * gs.length + 6) (nI (cMA gs ++ eM e1 ++ eM e2 ++ tM t (cMA gs ++ eM e1 ++ eM e2).length).length)) 77 k = if k = 8 * gs.length + 6 then nI (cMA gs ++ eM e1 ++ eM e2 ++ tM t (cMA gs ++ eM e1 ++ eM e2).length).length else iv1 77 k := fun k => by
        by_cases k6 : k = 8 * gs.length + 6
        · rw [if_pos k6, k6, upd2_self]
        · rw [if_neg k6, upd2_ne _ _ _ _ (fun w => k6 w.2), hf 77 k (by omega)]
      refine ⟨_, lv2, rfl, ⟨?_, ?_, rowsO_snoc hr (fun k hk2 => ?_) (fun k hk2 => ?_)⟩, (f1.tr hf.Y).tr (frY_77 _ _ _), o1.tr ho⟩
      · rw [cMA_snoc]
        show stEx q b n _ lv2 i2 (cMA gs ++ (eM e1 ++ (eM e2 ++ tM t ((cMA gs).length + (eM e1).length + (eM e2).length)))) c2
        rw [← hCl, ← List.append_assoc, ← List.append_assoc]
        exact stEx_fr hs (fun a k hk => upd2_ne _ _ _ _ (by omega))
      · rw [upd2_off _ _ _ _ (by decide), hf 46 21 (by omega)]; exact g21
      · rw [y77, if_neg (by omega), glo k (by omega)]
      · rw [y77]
        by_cases k5 : k < 5
        · rw [if_neg (by omega), glo _ (by omega)]
          exact hk k k5 (kind, m, e1, e2, t) rfl rfl rfl
        · have : k = 5 ∨ k = 6 ∨ k = 7 := by omega
          rcases this with rfl | rfl | rfl
          · rw [if_neg (by omega), g5, hCl]; rfl
          · rw [if_pos rfl, List.length_append, hCl]; rfl
          · rw [if_neg (by omega), g7]; rfl
    unfold pIf
    by_cases et : tkF b n i1 = 2011
    · rw [if_pos (decide_eq_true et), if_pos et]
      obtain ⟨iv2, lv2, a1, a2, a3, a4⟩ := m_nxE (X := X) (im := im) (lw := lw) (tl := tl) (d + 6) st (by omega)
      have p := m_exprT (X := X) (im := im) (lw := lw) (tl := tl) (d + 1) a2
      rw [a1, bV_some, sg309_241]
      cases hp : pTest q (tkF b n) 8 c1 (i1 + 1) with
      | inl e2 =>
        rw [hp] at p
        obtain ⟨iv3, lv3, p1, p2, p3, p4, p5, p6⟩ := p
        obtain ⟨iv4, r1, r2, r3⟩ := m_246B (X := X) (im := im) (lw := lw) (tl := tl) (lv := lv3) (call X xT (d + 8)) hm (show badM b n iv3 e2 from ⟨p2, p3⟩) v1 v3
        rw [p1, bV_some, r1]
        exact ⟨iv4, lv3, rfl, r2, ((f1.tr a3.Y).tr p5.Y).tr r3, (o1.tr a4).tr p6⟩
      | inr x =>
        rw [hp] at p
        obtain ⟨iv3, lv3, p1, p2, p3, p4⟩ := p
        rw [p1, bV_some]
        exact fin iv3 lv3 (some x.1) x.2.1 x.2.2 p2 (a3.tr p3) (a4.tr p4)
    · rw [if_neg (show ¬ decide (tkF b n i1 = 2011) = true by rw [decide_eq_false et]; decide), if_neg et]
      refine fin iv1 lv1 none c1 i1 ?_ frX.rf frO.rf
      show stEx q b n iv1 lv1 i1 (cMA gs ++ eM e1 ++ eM e2 ++ []) c1
      rw [List.append_nil]; exact st
  have h19 : iv 46 19 = nI 0 := h.2.1.1
  have h23 : iv 46 23 = nI (cMA gs ++ eM e1 ++ eM e2).length := h.2.2.2.1
  have z1 : ∀ a k, a ≠ 77 → (upd2 iv 77 (8 * gs.length + 7) (nI 1)) a k = iv a k := fun a k ha => upd2_ne _ _ _ _ (by omega)
  have st1 : stEx q b n (upd2 iv 77 (8 * gs.length + 7) (nI 1)) lv i (cMA gs ++ eM e1 ++ eM e2) c := stEx_fr h (fun a k hk => z1 a k (by omega))
  have w := m_isW X im lw tl (d + 7) st1.1 (t := 2010) (Or.inl (by omega))
  rw [hT_c.2.2.2.2.1] at w
  rw [sg309_160, nI_add, if_pos (inb_nI (by omega) (by omega)), h19, if_pos n0z, nI_clamp (by omega), w, bI_some, sg309_184, b2i_ite]
  unfold pTimes
  by_cases et : tkF b n i = 2010
  · rw [if_pos (decide_eq_true et), if_pos et]
    obtain ⟨iv2, lv2, a1, a2, a3, a4⟩ := m_nxE (X := X) (im := im) (lw := lw) (tl := tl) (d + 6) st1 (by omega)
    rw [a1, bV_some, sg309_191, nI_add]
    obtain ⟨n1, n2⟩ := m_numE (X := X) (im := im) (lw := lw) (tl := tl) (d + 4) (lo := 1) (hi := 20) (by omega) (by omega) a2
    have f2 : frY iv iv2 := (frY_77 _ _ _).tr a3.Y
    have badc : ∀ iv3 x, badM b n iv3 (i + 1) → frY iv2 iv3 → ∃ iv' lv', run X (call X xT (d + 8)) false 0 xc309 207 [some (.inr (.inr (some 46))), some (.inl v1), some (.inl (nI (8 * gs.length))), some (.inl v3)] [.inl x, .inl (nI (8 * gs.length + 7)), .inr (.inr (some 77))] (SS im lw tl, iv3, lv2) = some (none, (SS im lw tl, iv', lv')) ∧ badM b n iv' (i + 1) ∧ frY iv iv' ∧ frO lv lv' := by
      intro iv3 x hb hf
      rw [sg309_207, if_pos (inb_nI (by omega) (by omega)), nI_add, if_pos (inb_nI (by omega) (by omega)), hb.1, if_neg n1z]
      obtain ⟨iv4, r1, r2, r3⟩ := m_246B (X := X) (im := im) (lw := lw) (tl := tl) (lv := lv2) (call X xT (d + 8)) hm (bad77 (bad77 hb (nI (8 * gs.length + 7)).toNatClampNeg x) (nI (8 * gs.length + 5)).toNatClampNeg (iv3 46 23)) v1 v3
      exact ⟨iv4, lv2, r1, r2, (f2.tr hf).tr (((frY_77 _ _ _).tr (frY_77 _ _ _)).tr r3), a4⟩
    cases hn : numT (tkF b n (i + 1)) with
    | none =>
      obtain ⟨iv3, x, r1, r2, r3⟩ := n2 (fun v hv => by rw [hn] at hv; cases hv)
      rw [r1, bI_some]
      exact badc iv3 x r2 r3
    | some v =>
      simp only
      by_cases hv : 1 ≤ v ∧ v ≤ 20
      · rw [if_pos hv]
        obtain ⟨iv3, lv3, r1, r2, r3, r4⟩ := n1 v hn hv.1 hv.2
        have r23 : iv3 46 23 = nI (cMA gs ++ eM e1 ++ eM e2).length := r2.2.2.2.1
        rw [r1, bI_some, sg309_207, if_pos (inb_nI (by omega) (by omega)), nI_add, if_pos (inb_nI (by omega) (by omega)), r2.2.1.1, if_pos n0z, nI_clamp (by omega), nI_clamp (by omega), r23]
        have y : ∀ a k, a ≠ 77 → (upd2 (upd2 iv3 77 (8 * gs.length + 7) (nI v)) 77 (8 * gs.length + 5) (nI (cMA gs ++ eM e1 ++ eM e2).length)) a k = iv3 a k := fun a k ha => by rw [upd2_ne _ _ _ _ (by omega), upd2_ne _ _ _ _ (by omega)]
        refine tst _ lv3 c (i + 2) v (stEx_fr r2 (fun a k hk => y a k (by omega))) ((f2.tr r3.Y).tr ((frY_77 _ _ _).tr (frY_77 _ _ _))) (a4.tr r4) ?_ (fun k hk2 => ?_) ?_ (upd2_self _ _ _ _)
        · rw [y 46 21 (by decide), r3 46 21 (by omega), a3 46 21 (by omega), z1 46 21 (by decide)]; exact h21
        · rw [upd2_ne _ _ _ _ (by omega), upd2_ne _ _ _ _ (by omega), r3 77 k (by omega), a3 77 k (by omega), upd2_ne _ _ _ _ (by omega)]
        · rw [upd2_ne _ _ _ _ (by omega), upd2_self]
      · rw [if_neg hv]
        obtain ⟨iv3, x, r1, r2, r3⟩ := n2 (fun u hu => by rw [hn] at hu; injection hu with hu; omega)
        rw [r1, bI_some]
        exact badc iv3 x r2 r3
  · rw [if_neg (show ¬ decide (tkF b n i = 2010) = true by rw [decide_eq_false et]; decide), if_neg et, nI_add, if_pos (inb_nI (by omega) (by omega)), st1.2.1.1, if_pos n0z, nI_clamp (by omega), st1.2.2.2.1]
    have y : ∀ a k, a ≠ 77 → (upd2 (upd2 iv 77 (8 * gs.length + 7) (nI 1)) 77 (8 * gs.length + 5) (nI (cMA gs ++ eM e1 ++ eM e2).length)) a k = iv a k := fun a k ha => by rw [upd2_ne _ _ _ _ (by omega), upd2_ne _ _ _ _ (by omega)]
    refine tst _ lv c i 1 (stEx_fr h (fun a k hk => y a k (by omega))) ((frY_77 _ _ _).tr (frY_77 _ _ _)) frO.rf ?_ (fun k hk2 => ?_) ?_ (upd2_self _ _ _ _)
    · rw [y 46 21 (by decide)]; exact h21
    · rw [upd2_ne _ _ _ _ (by omega), upd2_ne _ _ _ _ (by omega)]
    · rw [upd2_ne _ _ _ _ (by omega), upd2_self]
end oo
