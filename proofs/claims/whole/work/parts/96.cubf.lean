theorem c_findCubs (X : XE) (d : Nat) {im lw : List (Option Nat)} {tl : List XC} {A : St} (ho : OKA A) {t days : Nat} (ht : t < 4) (hd : days ≤ 4) (iv : Nat → Nat → Int32) (lv : Nat → Nat → Int64) (h : RelC A im lw tl iv) : ∃ iv' lv', call X xT (d + 20) 177 [.inr (.inr (some 21)), .inr (.inr (some 1)), .inl (nI t), .inl (nI days)] (SS im lw tl, iv, lv) = some (some (.inl (gB (nP A.1.1) (bst none (cubL A t days)))), (SS im lw tl, iv', lv')) ∧ fr [18, 20, 21, 23, 26, 27, 28, 29] iv iv' ∧ agL lv lv' ∧ cubI (nP A.1.1) days (bst none (cubL A t days)) iv' := by
  obtain ⟨p0, p1, t0, t1, hk⟩ := cfacts h ho
  obtain ⟨iv1, e1, e2, e3⟩ := c_fill29 X (d + 18) im lw tl (upd2 iv 21 9 (nI (nP A.1.1))) lv
  have f1 : fr [21, 29] iv iv1 := (fr_upd _ _ _ (by simp)).tr (e2.mo (by simp))
  have e177 : call X xT (d + 20) 177 [.inr (.inr (some 21)), .inr (.inr (some 1)), .inl (nI t), .inl (nI days)] (SS im lw tl, iv, lv) = run X (call X xT (d + 19)) false 1 xc177 22 [some (.inr (.inr (some 21))), some (.inr (.inr (some 1))), some (.inl (nI t)), some (.inl (nI days)), some (.inl (nI 0)), none] [] (SS im lw tl, iv1, lv) := by
    rw [tr177, obj_ok (show (SS im lw tl)[1]? = some (9, 6, [some 2, some 4, some 6, some 7, none, none]) from rfl) rfl (by show 0 < 6; omega)]
    show objR (SS im lw tl) (some 2) 7 _ = _
    rw [objR_ok (show (SS im lw tl)[2]? = some (7, 1, [some 3]) from rfl) rfl, c_prov0 (sc2 im lw tl), bI_some, p0, sg177_8, e1, bV_some, sg177_19]
  obtain ⟨iv2, lv2, w2, a1, a2, a3, a4⟩ := c_cm X (d + 13) ho ht hd (im := im) (lw := lw) (tl := tl) (nP A.1.1) 0 iv1 lv none (by omega) (h.fr (fun a ha => f1 a (by simp [ncC] at ha; simp; omega)) (fun a ha => f1 a (by simp; omega))) (by rw [e2 21 (by decide), upd2_self]) (fun i hi => by omega)
  have z : ∀ a, a ≠ 21 → (upd2 iv2 21 8 (-1)) a = iv2 a := fun a ha => upd2_off _ _ _ _ ha
  obtain ⟨iv3, b1, b2, b3, b4, b5⟩ := c_choose X im lw tl lv2 ho (t := t) hd days 0 (by omega) (d + 16 - days) (upd2 iv2 21 8 (-1)) (fun _ => 0) none ⟨by rw [upd2_ne _ _ _ _ (by decide), a2 21 (by decide), e2 21 (by decide), upd2_self], by rw [upd2_self]; rfl, fun b hb => by cases hb⟩ (by rw [z 28 (by decide)]; exact a4) (fun p hp => by rw [z 29 (by decide), a2 29 (by decide), e3 p (by omega)]; rfl) (fun i hi => by omega)
  rw [show d + 16 - days + 3 + days = d + 19 by omega] at b1
  have fA : fr [18, 20, 21, 23, 26, 27, 28, 29] iv iv3 := ((f1.mo (by simp)).tr (a2.mo (by simp))).tr ((fr_upd _ _ _ (by simp)).tr (b3.mo (by simp)))
  rw [e177, a1, b1, bV_some, sg177_108, b2.2.1]
  exact ⟨iv3, lv2, rfl, fA, a3, b2⟩
theorem C_cubs (t n i : Int32) : CSpec 176 [.inl t, .inl n, .inl i] (sp_cubs t n i) := by
  intro X hX d im lw tl iv lv A h ho
  obtain ⟨p0, p1, t0, t1, hk⟩ := cfacts h ho
  rw [tr176, c_hasT (sc2 im lw tl), bI_some, sg176_11, b2i_ite, t0]
  unfold sp_cubs
  cases hx : hasV (nI (nT A.1.1)) t
  · rw [if_neg (by decide), if_neg (by simp)]
    exact ⟨iv, lv, rfl, h, midI.rf, midL.rf⟩
  rw [if_pos rfl, c_within X (d + 38), bI_some, sg176_19, b2i_ite]
  cases hy : inV n (nI 4)
  · rw [if_neg (by decide), if_neg (by simp)]
    exact ⟨iv, lv, rfl, h, midI.rf, midL.rf⟩
  rw [if_pos rfl]
  obtain ⟨a, ha, rfl⟩ := hasV_of (by omega) hx
  obtain ⟨b, hb, rfl⟩ := inV_of (by decide) hy
  rw [nI_clamp (by omega), nI_clamp (by omega)]
  obtain ⟨iv1, lv1, c1, c2, c3, c4⟩ := c_findCubs X (d + 19) (im := im) (lw := lw) (tl := tl) ho (show a < 4 by omega) hb iv lv h
  obtain ⟨w, hw⟩ := cubL_ne A a b
  rw [hw] at c1 c4 ⊢
  obtain ⟨g1, g2⟩ := c4.2.2 w rfl
  have h1 : RelC A im lw tl iv1 := h.fr (fun a ha => c2 a (by simp [ncC] at ha; simp; omega)) (fun a ha => c2 a (by simp; omega))
  by_cases ci : i = -1
  · subst ci
    rw [if_pos rfl, if_pos ⟨rfl, rfl, Or.inl rfl⟩, c1, bI_some, sg176_54, if_pos rfl, sg176_74]
    exact ⟨iv1, lv1, rfl, h1, c2.mid (by simp), c3.mid⟩
  · rw [if_neg ci, c_within X (d + 38), bI_some, sg176_36, b2i_ite]
    cases hz : inV i (nI b - nI 1)
    · rw [if_neg (by decide), if_neg (by simp [ci])]
      exact ⟨iv, lv, rfl, h, midI.rf, midL.rf⟩
    · have b1 : 1 ≤ b := by
        rcases Nat.eq_zero_or_pos b with e | e
        · subst e
          exfalso
          unfold inV at hz
          have q := of_decide_eq_true hz
          have l : i < 0 := by
            have e1 := q.2
            rw [show nI 0 - nI 1 = (-1 : Int32) by decide] at e1
            have le : i ≤ -1 := Int32.not_lt.mp e1
            have : i < -1 ∨ i = -1 := Int32.le_iff_lt_or_eq.mp le
            rcases this with z | z
            · exact Int32.lt_trans z (by decide)
            · exact absurd z ci
          exact q.1 l
        · exact e
      rw [pk_sub b1] at hz
      obtain ⟨e, he, rfl⟩ := inV_of (by omega) hz
      rw [if_pos rfl, if_pos ⟨rfl, rfl, Or.inr rfl⟩, c1, bI_some, sg176_54, if_neg ci, tr150, if_neg (nI_pos (by omega)), if_neg (nI_ge (by omega) (by omega)), if_pos (inb_nI (by omega) (by omega)), bI_some, sg176_74, nI_clamp (by omega), g2 e (by omega)]
      refine ⟨iv1, lv1, ?_, h1, c2.mid (by simp), c3.mid⟩
      have bn : cubV (nP A.1.1) (some w) (nI e) = if nI e = -1 then nI (nP A.1.1 - w.1) else cvR (nP A.1.1) (w.2 (nI e).toNatClampNeg) := rfl
      rw [bn, if_neg ci, nI_clamp (by omega)]
