/-! show: the reference's search -/
def shoR (X : XE) (d : Nat) (im lw : List (Option Nat)) (tl : List XC) (f g0 : Sc) (v1 v2 v5 : Int32) (M p : Nat) (iv : Nat → Nat → Int32) (lv : Nat → Nat → Int64) (o : Option Lf) (T : Option XR) : Prop := ∃ iv' lv' w7, T = run X (call X xT (d + 7)) false 1 xc280 73 [some (.inr (.inr (some 46))), some (.inl v1), some (.inl v2), some (.inl (nI M)), some (.inl (bI0 o)), some (.inl v5), some (.inl (nI p + (-1))), w7] [] (SS im lw tl, iv', lv') ∧ frG [48, 69, 70, 71, 72] iv iv' ∧ agN lv lv' ∧ (∀ i, i < p → iv' 69 i = iv 69 i) ∧ (∀ i, i ≤ p → iv' 71 i = iv 71 i) ∧ (∀ x, x < 12 * (p + 1) → iv' 70 x = iv 70 x) ∧ rowK M (iv' 72) o ∧ shoP f g0 (iv' 48)
theorem nI_sub1 (j : Nat) : nI j = nI (j + 1) - nI 1 := by rw [← nI_add]; exact (Int32.add_sub_cancel _ _).symm
theorem nI_up (p : Nat) : nI (p + 1) + (-1) = nI p := by rw [← nI_add, Int32.add_assoc, show (nI 1 : Int32) + (-1) = 0 by decide, Int32.add_zero]
theorem m_sho (X : XE) (d : Nat) (im lw : List (Option Nat)) (tl : List XC) {f g0 : Sc} {n t M : Nat} {l : Lw} {told v5 : Int32} (hf : okF f) (hn : n ≤ 6) (hn0 : f 0 = nI n) (ht : t < 4) (hM : M ≤ 6) (hbt : ∀ j, n ≤ j → j < 6 → bitV told j = false) (hl : lawG g0 l.1 l.2) : ∀ (m p : Nat), p + m = M → ∀ (iv : Nat → Nat → Int32) (lv : Nat → Nat → Int64) (r : Sc) (c : Nat) (o : Option Lf) (w7 : Option XV), iv 46 20 = nI 0 → shoP f g0 (iv 48) → iv 69 p = -1 → iv 71 p = nI c → c ≤ p → (∀ i, i < p → iv 69 i = r i) → (∀ i, i < p → ∃ a, a < 6 ∧ r i = nI a ∧ turP (pap f n l t r i) l t a ≠ nI 0) → (∀ i, i < 12 → iv 70 (12 * p + i) = pap f n l t r p (5 + i)) → rowK M (iv 72) o → shoR X d im lw tl f g0 (nI t) told v5 M p iv lv (bst o (lev 6 (showS f n l t told) m p r c)) (run X (call X xT (d + 7)) false 1 xc280 73 [some (.inr (.inr (some 46))), some (.inl (nI t)), some (.inl told), some (.inl (nI M)), some (.inl (bI0 o)), some (.inl v5), some (.inl (nI p)), w7] [] (SS im lw tl, iv, lv)) := by
  intro m
  induction m with
  | zero =>
    intro p hp iv lv r c o w7 h20 hP h69 h71 hc hr hv h70 ho
    have : p = M := by omega
    subst this
    show shoR X d im lw tl f g0 (nI t) told v5 p p iv lv (bst1 o (c, r)) _
    obtain ⟨iv1, l1, l2, l3, l4⟩ := m_load X (d + 6) im lw tl iv lv (show p ≤ 6 by omega)
    have hP1 := (shoP_ld hP l4 (P := pap f n l t r p) (fun i hi => by rw [l3 i hi, h70 i hi]) (fun j hj hj2 => pap_j hn (by omega) p (fun i hi => by obtain ⟨a, a1, a2, a3⟩ := hv i hi; exact ⟨a, a1, a2, by omega, a3⟩))).1
    rw [sg280_73, if_neg (nI_pos (by omega)), l1, bV_some, sg280_84, if_pos (inb_nI (by omega) (by omega)), if_pos (inb_nI (by omega) (by omega)), if_pos rfl, nI_clamp (by omega)]
    generalize hg : upd2 iv1 69 p (iv1 69 p + nI 1) = iv2
    have off : ∀ a, a ≠ 69 → iv2 a = iv1 a := fun a ha => by rw [← hg, upd2_off _ _ _ _ ha]
    have f2 : fr [48, 69, 70, 71, 72] iv iv2 := (l2.mo (by simp)).tr (hg ▸ fr_upd _ _ _ (by simp))
    have h71' : iv2 71 p = nI c := by rw [off 71 (by decide), l2 71 (by decide)]; exact h71
    have r69 : ∀ i, i < p → iv2 69 i = iv 69 i := fun i hi => by rw [← hg, upd2_ne _ _ _ _ (by omega), l2 69 (by decide)]
    have r71 : iv2 71 = iv 71 := by rw [off 71 (by decide), l2 71 (by decide)]
    have r70 : iv2 70 = iv 70 := by rw [off 70 (by decide), l2 70 (by decide)]
    have r72 : iv2 72 = iv 72 := by rw [off 72 (by decide), l2 72 (by decide)]
    have r48 : iv2 48 = iv1 48 := off 48 (by decide)
    rcases bI0_le ho (show c ≤ 6 by omega) r with ⟨b1, b2⟩ | ⟨b1, b2⟩
    · rw [b2]
      refine ⟨iv2, lv, some (.inl (nI 0)), ?_, f2.G, agN.rf, r69, fun i _ => by rw [r71], fun x _ => by rw [r70], by rw [r72]; exact ho, by rw [r48]; exact hP1⟩
      by_cases c0 : p = 0
      · subst c0
        rw [sg280_120, if_pos (nI_le (by omega) (by omega)), if_pos rfl, if_pos (inb_nI (by omega) (by omega)), nI_clamp (by omega), h71', if_pos b1]
      · rw [sg280_120, if_neg (nI_ge (by omega) (by omega)), if_pos rfl, if_pos (inb_nI (by omega) (by omega)), nI_clamp (by omega), h71', if_pos b1, if_pos rfl, if_pos (inb_nI (by omega) (by omega)), if_pos b1]
    · rw [b2]
      obtain ⟨iv', a1, a2, a3⟩ := m_sho_cp X (call X xT (d + 7)) im lw tl lv (by omega) (nI t) told v5 b1 p 0 iv2 (by omega) h71'
      refine ⟨iv', lv, _, a1, f2.G.tr (a2.mo (by simp)).G, agN.rf, fun i hi => by rw [a2 69 (by decide)]; exact r69 i hi, fun i _ => by rw [a2 71 (by decide), r71], fun x _ => by rw [a2 70 (by decide), r70], fun b hb => ?_, by rw [a2 48 (by decide), r48]; exact hP1⟩
      injection hb with hb
      subst hb
      exact ⟨by omega, fun i hi => by rw [a3 i, if_pos (by omega), r69 i hi]; exact hr i hi⟩
  | succ m ih =>
    intro p hp iv lv r c o w7 h20 hP h69 h71 hc hr hv h70 ho
    have pv : ∀ j, (j < 11 ∨ 17 ≤ j) → (j < 5 ∨ 17 ≤ j) → pap f n l t r p j = f j := fun j h1 h2 => pap_j hn h1 p (fun i hi => by obtain ⟨a, a1, a2, a3⟩ := hv i hi; exact ⟨a, a1, a2, by omega, a3⟩)
    have okP : okF (pap f n l t r p) := (okF_pap hn ht hf p (fun i hi => by obtain ⟨a, a1, a2, a3⟩ := hv i hi; exact ⟨a, a1, a2⟩)).1
    have pn : ¬ nI p = nI M := fun e => by have := congrArg Int32.toNatClampNeg e; rw [nI_clamp (by omega), nI_clamp (by omega)] at this; omega
    have loop : ∀ (k j : Nat), j + k = 6 → ∀ (iv : Nat → Nat → Int32) (lv : Nat → Nat → Int64) (o : Option Lf) (w7 : Option XV), iv 46 20 = nI 0 → shoP f g0 (iv 48) → iv 69 p = nI j - nI 1 → iv 71 p = nI c → (∀ i, i < p → iv 69 i = r i) → (∀ i, i < 12 → iv 70 (12 * p + i) = pap f n l t r p (5 + i)) → rowK M (iv 72) o → shoR X d im lw tl f g0 (nI t) told v5 M p iv lv (bst o (levI (lev 6 (showS f n l t told) m (p + 1)) (showS f n l t told p) p r c k j)) (run X (call X xT (d + 7)) false 1 xc280 73 [some (.inr (.inr (some 46))), some (.inl (nI t)), some (.inl told), some (.inl (nI M)), some (.inl (bI0 o)), some (.inl v5), some (.inl (nI p)), w7] [] (SS im lw tl, iv, lv)) := by
      intro k
      induction k with
      | zero =>
        intro j hj iv lv o w7 h20 hP h69 h71 hr h70 ho
        have j6 : j = 6 := by omega
        subst j6
        obtain ⟨iv1, l1, l2, l3, l4⟩ := m_load X (d + 6) im lw tl iv lv (show p ≤ 6 by omega)
        obtain ⟨hP1, he⟩ := shoP_ld hP l4 (P := pap f n l t r p) (fun i hi => by rw [l3 i hi, h70 i hi]) (fun j hj hj2 => pv j (by omega) hj2)
        have e0 : iv1 48 0 = nI n := (he 0 (by omega)).symm.trans ((pv 0 (by omega) (by omega)).trans hn0)
        have e69 : iv1 69 p = nI 6 - nI 1 := by rw [l2 69 (by decide)]; exact h69
        rw [sg280_73, if_neg (nI_pos (by omega)), l1, bV_some, sg280_84, if_pos (inb_nI (by omega) (by omega)), if_pos (inb_nI (by omega) (by omega)), if_neg pn, if_pos (inb_nI (by omega) (by omega)), nI_clamp (by omega), upd2_self, e69, e0, show nI 6 - nI 1 + nI 1 = nI 6 by decide, if_neg (nI_nlt (by omega) (by omega)), sg280_120, if_neg (nI_ge (by omega) (by omega)), if_neg pn, if_neg pn]
        have f2 : fr [48, 69, 70, 71, 72] iv (upd2 iv1 69 p (nI 6)) := (l2.mo (by simp)).tr (fr_upd _ _ _ (by simp))
        exact ⟨_, lv, _, rfl, f2.G, agN.rf, fun i hi => by rw [upd2_ne _ _ _ _ (by omega), l2 69 (by decide)], fun i _ => by rw [upd2_off _ _ _ _ (by decide), l2 71 (by decide)], fun x _ => by rw [upd2_off _ _ _ _ (by decide), l2 70 (by decide)], by rw [upd2_off _ _ _ _ (by decide), l2 72 (by decide)]; exact ho, by rw [upd2_off _ _ _ _ (by decide)]; exact hP1⟩
      | succ k ik =>
        intro j hj iv lv o w7 h20 hP h69 h71 hr h70 ho
        obtain ⟨iv1, l1, l2, l3, l4⟩ := m_load X (d + 6) im lw tl iv lv (show p ≤ 6 by omega)
        obtain ⟨hP1, he⟩ := shoP_ld hP l4 (P := pap f n l t r p) (fun i hi => by rw [l3 i hi, h70 i hi]) (fun j hj hj2 => pv j (by omega) hj2)
        have e0 : iv1 48 0 = nI n := (he 0 (by omega)).symm.trans ((pv 0 (by omega) (by omega)).trans hn0)
        have e69 : iv1 69 p = nI j - nI 1 := by rw [l2 69 (by decide)]; exact h69
        have ej : nI j - nI 1 + nI 1 = nI j := Int32.sub_add_cancel _ _
        rw [sg280_73, if_neg (nI_pos (by omega)), l1, bV_some, sg280_84, if_pos (inb_nI (by omega) (by omega)), if_pos (inb_nI (by omega) (by omega)), if_neg pn, if_pos (inb_nI (by omega) (by omega)), nI_clamp (by omega), upd2_self, e69, e0, ej]
        generalize hg : upd2 iv1 69 p (nI j) = iv2
        have off : ∀ a, a ≠ 69 → iv2 a = iv1 a := fun a ha => by rw [← hg, upd2_off _ _ _ _ ha]
        have f2 : fr [48, 69, 70, 71, 72] iv iv2 := (l2.mo (by simp)).tr (hg ▸ fr_upd _ _ _ (by simp))
        have s69 : iv2 69 p = nI j := by rw [← hg, upd2_self]
        have r69 : ∀ i, i < p → iv2 69 i = r i := fun i hi => by rw [← hg, upd2_ne _ _ _ _ (by omega), l2 69 (by decide)]; exact hr i hi
        have r71 : iv2 71 = iv 71 := by rw [off 71 (by decide), l2 71 (by decide)]
        have r70 : iv2 70 = iv 70 := by rw [off 70 (by decide), l2 70 (by decide)]
        have r72 : iv2 72 = iv 72 := by rw [off 72 (by decide), l2 72 (by decide)]
        have r48 : iv2 48 = iv1 48 := off 48 (by decide)
        have h202 : iv2 46 20 = nI 0 := by rw [off 46 (by decide), l2 46 (by decide)]; exact h20
        by_cases cn : j < n
        · rw [if_pos (nI_lt cn (by omega)), if_pos (inb_nI (by omega) (by omega)), m_is X (d + 6), bI_some, sg280_210, b2i_ite]
          simp only [levI]
          rw [bst_app]
          -- on with the next one, the row of 48 being of the paper's kind
          have skip : ∀ (iv3 : Nat → Nat → Int32) (lv3 : Nat → Nat → Int64) (o3 : Option Lf) (w7 : Option XV), frG [48, 69, 70, 71, 72] iv iv3 → agN lv lv3 → iv3 69 p = nI j → (∀ i, i < p → iv3 69 i = iv 69 i) → (∀ i, i ≤ p → iv3 71 i = iv 71 i) → (∀ x, x < 12 * (p + 1) → iv3 70 x = iv 70 x) → rowK M (iv3 72) o3 → shoP f g0 (iv3 48) → shoR X d im lw tl f g0 (nI t) told v5 M p iv lv (bst o3 (levI (lev 6 (showS f n l t told) m (p + 1)) (showS f n l t told p) p r c k (j + 1))) (run X (call X xT (d + 7)) false 1 xc280 73 [some (.inr (.inr (some 46))), some (.inl (nI t)), some (.inl told), some (.inl (nI M)), some (.inl (bI0 o3)), some (.inl v5), some (.inl (nI p)), w7] [] (SS im lw tl, iv3, lv3)) := by
            intro iv3 lv3 o3 w7 q1 q2 q3 q4 q5 q6 q7 q8
            obtain ⟨iv4, lv4, w4, b1, b2, b3, b4, b5, b6, b7, b8⟩ := ik (j + 1) (by omega) iv3 lv3 o3 w7 (by rw [q1 46 20 (by simp) (by omega)]; exact h20) q8 (by rw [q3]; exact nI_sub1 j) (by rw [q5 p (by omega)]; exact h71) (fun i hi => by rw [q4 i hi]; exact hr i hi) (fun i hi => by rw [q6 _ (by omega)]; exact h70 i hi) q7
            exact ⟨iv4, lv4, w4, b1, q1.tr b2, q2.tr b3, fun i hi => by rw [b4 i hi, q4 i hi], fun i hi => by rw [b5 i hi, q5 i hi], fun x hx => by rw [b6 x hx, q6 x hx], b7, b8⟩
          have nos : ∀ (iv3 : Nat → Nat → Int32) (lv3 : Nat → Nat → Int64) (w7 : Option XV), showS f n l t told p j r = none → agM iv2 iv3 → agN lv lv3 → shoR X d im lw tl f g0 (nI t) told v5 M p iv lv (bst (bst o (levX (lev 6 (showS f n l t told) m (p + 1)) p r c j (showS f n l t told p j r))) (levI (lev 6 (showS f n l t told) m (p + 1)) (showS f n l t told p) p r c k (j + 1))) (run X (call X xT (d + 7)) false 1 xc280 73 [some (.inr (.inr (some 46))), some (.inl (nI t)), some (.inl told), some (.inl (nI M)), some (.inl (bI0 o)), some (.inl v5), some (.inl (nI p)), w7] [] (SS im lw tl, iv3, lv3)) := by
            intro iv3 lv3 w7 hs g2 g3
            rw [hs]
            have z : ∀ a, a ≠ 46 → iv3 a = iv2 a := fun a ha => g2.row ha
            exact skip iv3 lv3 o w7 (f2.G.tr g2.G) g3 (by rw [z 69 (by decide)]; exact s69) (fun i hi => by rw [z 69 (by decide), r69 i hi, hr i hi]) (fun i _ => by rw [z 71 (by decide), r71]) (fun x _ => by rw [z 70 (by decide), r70]) (by rw [z 72 (by decide), r72]; exact ho) (by rw [z 48 (by decide), r48]; exact hP1)
          by_cases cb : bitV told j = true
          · rw [if_pos cb, m_new X (d + 6) im lw tl iv2 lv (show p ≤ 6 by omega) s69 r69, bI_some, sg280_219, b2i_ite]
            cases ct : tak r j p
            · rw [if_pos (by rfl), if_pos (inb_nI (by omega) (by omega)), nI_clamp (by omega), s69]
              have he2 : eqS (pap f n l t r p) (fM (iv2 48)) := by rw [r48]; exact he
              have hl2 : lawG (iv2 48) l.1 l.2 := by rw [r48]; exact hl.sc hP1.1
              obtain ⟨iv3, lv3, g1, g2, g3⟩ := m_barred X (d + 2) im lw tl iv2 lv h202 hl2 (t := t) (p := j) ht (by omega)
              rw [← barV_eq he2 _ _ ht (by omega)] at g1
              have z3 : ∀ a, a ≠ 46 → iv3 a = iv2 a := fun a ha => g2.row ha
              rw [g1, bI_some, sg280_234, b2i_ite]
              cases hbar : barV (pap f n l t r p) l.1 l.2 t j
              · have eT : turP (pap f n l t r p) l t j = reaV (pap f n l t r p) l.1 l.2 t j := by unfold turP; rw [if_neg (by rw [hbar]; decide)]
                have he3 : eqS (pap f n l t r p) (fM (iv3 48)) := by rw [z3 48 (by decide)]; exact he2
                rw [if_neg (by decide), if_pos (inb_nI (by omega) (by omega)), nI_clamp (by omega), z3 69 (by decide), s69]
                have h203 : iv3 46 20 = nI 0 := by rw [g2 46 20 (by omega)]; exact h202
                have hl3 : lawG (iv3 48) l.1 l.2 := by rw [z3 48 (by decide)]; exact hl2
                obtain ⟨iv4, lv4, k1, k2, k3⟩ := m_would X (d + 1) im lw tl iv3 lv3 h203 hl3 (okP.1.eq he3) (t := t) (p := j) ht (by omega)
                rw [← reaV_eq he3 _ _ ht (by omega), ← eT] at k1
                have z4 : ∀ a, a ≠ 46 → iv4 a = iv2 a := fun a ha => (k2.row ha).trans (z3 a ha)
                rw [k1, bI_some, sg280_249]
                by_cases c0 : turP (pap f n l t r p) l t j = nI 0
                · rw [if_pos (by rw [c0]; decide)]
                  exact nos iv4 lv4 w7 (if_neg (fun e => e.2.2 c0)) (g2.tr k2) (g3.tr k3)
                · have c12 : turP (pap f n l t r p) l t j = nI 1 ∨ turP (pap f n l t r p) l t j = nI 2 := by rcases turP_3 (pap f n l t r p) l t j with e | e | e <;> first | exact absurd e c0 | exact Or.inl e | exact Or.inr e
                  rw [if_neg (by rcases c12 with e | e <;> rw [e] <;> decide), if_pos (inb_nI (by omega) (by omega)), nI_clamp (by omega), z4 69 (by decide), s69]
                  have he4 : eqS (pap f n l t r p) (fM (iv4 48)) := by rw [z4 48 (by decide)]; exact he2
                  obtain ⟨iv5, lv5, m1, m2, m3, m4, m5⟩ := m_crackIt X d im lw tl iv4 lv4 (by rw [k2 46 20 (by omega)]; exact h203) (by rw [z4 48 (by decide)]; exact hl2) okP.1 he4 hn (by rw [z4 48 (by decide), r48]; exact e0) (t := t) (p := j) ht (by omega)
                  rw [← eT] at m1 m2
                  have hs : showS f n l t told p j r = some (if turP (pap f n l t r p) l t j = nI 1 then 1 else 0) := if_pos ⟨cb, ct, c0⟩
                  have z5 : ∀ a, a ≠ 46 → a ≠ 48 → iv5 a = iv2 a := fun a ha hb => by rw [frG_row m4 (by simp; omega) ha, z4 a ha]
                  have f5 : frG [48, 69, 70, 71, 72] iv iv5 := ((f2.G.tr g2.G).tr k2.G).tr (m4.mo (by simp))
                  have n5 : agN lv lv5 := (g3.tr k3).tr m5
                  have hP5 : shoP f g0 (iv5 48) := by
                    refine ⟨(by rw [z4 48 (by decide), r48] at m3; exact hP1.1.tr m3), fun j' hj' hj2 => ?_⟩
                    have := m2 j' hj'
                    unfold fM at this
                    rw [← this, reactF_j hn c12 (by omega) (by omega) (by omega)]
                    exact pv j' (by omega) hj2
                  have pe : pap f n l t (pu r p (nI j)) p = pap f n l t r p := pap_eq p (fun i hi => pu_n _ _ _ (by omega))
                  have pe1 : pap f n l t (pu r p (nI j)) (p + 1) = reactF (pap f n l t r p) n (turP (pap f n l t r p) l t j) t j := by
                    simp only [pap]; rw [pe, pu_s, nI_clamp (by omega)]
                  rw [m1, bI_some, sg280_264, if_pos (inb_nI (by omega) (by omega)), nI_add, if_pos (inb_nI (by omega) (by omega)), if_pos (inb_nI (by omega) (by omega)), nI_clamp (by omega), nI_clamp (by omega), z5 71 (by decide) (by decide), r71, h71, nI_add, nI_add, hs]
                  have go : ∀ x, x ≤ 1 → shoR X d im lw tl f g0 (nI t) told v5 M p iv lv (bst (bst o (lev 6 (showS f n l t told) m (p + 1) (pu r p (nI j)) (c + x))) (levI (lev 6 (showS f n l t told) m (p + 1)) (showS f n l t told p) p r c k (j + 1))) (bV (call X xT (d + 7) 282 [.inr (.inr (some 46)), .inl (nI (p + 1))] (SS im lw tl, upd2 (upd2 iv5 71 (p + 1) (nI (c + x))) 69 (p + 1) (-1), lv5)) (fun h3 => run X (call X xT (d + 7)) false 1 xc280 311 [some (.inr (.inr (some 46))), some (.inl (nI t)), some (.inl told), some (.inl (nI M)), some (.inl (bI0 o)), some (.inl v5), some (.inl (nI (p + 1))), some (.inl (turP (pap f n l t r p) l t j))] [] h3)) := by
                    intro x hx
                    generalize hg6 : upd2 (upd2 iv5 71 (p + 1) (nI (c + x))) 69 (p + 1) (-1) = iv6
                    have y : ∀ a, a ≠ 69 → a ≠ 71 → iv6 a = iv5 a := fun a h1 h2 => by rw [← hg6, upd2_off _ _ _ _ h1, upd2_off _ _ _ _ h2]
                    have y69 : ∀ i, i < p + 1 → iv6 69 i = pu r p (nI j) i := fun i hi => by
                      rw [← hg6, upd2_ne _ _ _ _ (by omega), upd2_off _ _ _ _ (by decide), z5 69 (by decide) (by decide)]
                      by_cases e : i = p
                      · subst e; rw [s69, pu_s]
                      · rw [r69 i (by omega), pu_n _ _ _ e]
                    have y71 : ∀ i, i ≤ p → iv6 71 i = iv 71 i := fun i hi => by
                      rw [← hg6, upd2_off _ _ _ _ (by decide), upd2_ne _ _ _ _ (by omega), z5 71 (by decide) (by decide), r71]
                    have f6 : fr [48, 69, 70, 71, 72] iv5 iv6 := hg6 ▸ (fr_upd _ _ _ (by simp)).tr (fr_upd _ _ _ (by simp))
                    obtain ⟨iv7, s1, s2, s3, s4⟩ := m_save X (d + 6) im lw tl iv6 lv5 (show p + 1 ≤ 6 by omega)
                    have z7 : ∀ a, a ≠ 70 → iv7 a = iv6 a := fun a ha => s2 a (by simp; exact ha)
                    have f7 : frG [48, 69, 70, 71, 72] iv iv7 := (f5.tr f6.G).tr (s2.mo (by simp)).G
                    have q70 : ∀ x, x < 12 * (p + 1) → iv7 70 x = iv 70 x := fun x hx => by rw [s4 x hx, y 70 (by decide) (by decide), z5 70 (by decide) (by decide), r70]
                    rw [s1, bV_some, sg280_311]
                    obtain ⟨iv8, lv8, w8, a1, a2, a3, a4, a5, a6, a7, a8⟩ := ih (p + 1) (by omega) iv7 lv5 (pu r p (nI j)) (c + x) o (some (.inl (turP (pap f n l t r p) l t j))) (by rw [f7 46 20 (by simp) (by omega)]; exact h20) (by rw [z7 48 (by decide), y 48 (by decide) (by decide)]; exact hP5) (by rw [z7 69 (by decide), ← hg6, upd2_self]) (by rw [z7 71 (by decide), ← hg6, upd2_off _ _ _ _ (by decide), upd2_self]) (by omega) (fun i hi => by rw [z7 69 (by decide)]; exact y69 i hi) (fun i hi => by
                      by_cases e : i = p
                      · subst e; exact ⟨j, by omega, pu_s _ _ _, by rw [pe]; exact c0⟩
                      · obtain ⟨a, a1, a2, a3⟩ := hv i (by omega)
                        exact ⟨a, a1, by rw [pu_n _ _ _ e]; exact a2, by rw [pap_eq i (fun q hq => pu_n _ _ _ (by omega))]; exact a3⟩) (fun i hi => by
                      rw [s3 i hi, y 48 (by decide) (by decide), pe1, m2 (5 + i) (by omega), fM, mx_i hi]) (by rw [z7 72 (by decide), y 72 (by decide) (by decide), z5 72 (by decide) (by decide), r72]; exact ho)
                    rw [nI_up] at a1
                    rw [a1]
                    refine skip iv8 lv8 _ w8 (f7.tr a2) (n5.tr a3) (by rw [a4 p (by omega), z7 69 (by decide), y69 p (by omega), pu_s]) (fun i hi => by rw [a4 i (by omega), z7 69 (by decide), y69 i (by omega), pu_n _ _ _ (by omega), hr i hi]) (fun i hi => by rw [a5 i (by omega), z7 71 (by decide), y71 i hi]) (fun x hx => by rw [a6 x (by omega), q70 x hx]) a7 a8
                  by_cases ce : turP (pap f n l t r p) l t j = nI 1
                  · rw [if_pos ce, if_pos ce]
                    have g := go 1 (by omega)
                    rw [ce] at g
                    rw [ce]
                    exact g
                  · rw [if_neg ce, if_neg ce, if_pos (inb_nI (by omega) (by omega)), if_pos (inb_nI (by omega) (by omega))]; exact go 0 (by omega)
              · rw [if_pos rfl]
                exact nos iv3 lv3 w7 (if_neg (fun e => e.2.2 (by unfold turP; rw [if_pos hbar]))) g2 g3
            · rw [if_neg (by decide)]
              exact nos iv2 lv w7 (if_neg (fun e => by rw [ct] at e; exact absurd e.2.1 (by decide))) (fun _ _ _ => rfl) agN.rf
          · rw [if_neg cb]
            exact nos iv2 lv w7 (if_neg (fun e => cb e.1)) (fun _ _ _ => rfl) agN.rf
        · rw [if_neg (nI_nlt (by omega) (by omega)), sg280_120, if_neg (nI_ge (by omega) (by omega)), if_neg pn, if_neg pn, levI_nil (k + 1) j (fun i h1 h2 => if_neg (fun e => by rw [hbt i (by omega) (by omega)] at e; exact absurd e.1 (by decide)))]
          exact ⟨iv2, lv, _, rfl, f2.G, agN.rf, fun i hi => by rw [r69 i hi, hr i hi], fun i _ => by rw [r71], fun x _ => by rw [r70], by rw [r72]; exact ho, by rw [r48]; exact hP1⟩
    exact loop 6 0 (by omega) iv lv o w7 h20 hP (by rw [h69]; decide) h71 hr h70 ho
