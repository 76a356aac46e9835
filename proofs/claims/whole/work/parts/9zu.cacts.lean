/-! orders: the acts of the class with all that they leave -/
def frA (iv iv' : Nat → Nat → Int32) : Prop := fr [3, 18, 20, 30, 31, 32] iv iv'
def CF (im lw : List (Option Nat)) (tl : List XC) (iv : Nat → Nat → Int32) (lv : Nat → Nat → Int64) (r : Option XR) (p : Int32 × St) : Prop := ∃ iv' lv', r = some (some (.inl p.1), (SS im lw tl, iv', lv')) ∧ RelC p.2 im lw tl iv' ∧ frA iv iv' ∧ agL lv lv'
theorem cqF {im lw : List (Option Nat)} {tl : List XC} {iv : Nat → Nat → Int32} {lv : Nat → Nat → Int64} {A : St} (h : RelC A im lw tl iv) {r : Option XR} {v : Int32} (e : r = some (some (.inl v), (SS im lw tl, iv, lv))) : CF im lw tl iv lv r (v, A) := ⟨iv, lv, e, h, fr.rf, agL.rf⟩
theorem cq2F {im lw : List (Option Nat)} {tl : List XC} {iv iv' : Nat → Nat → Int32} {lv lv' : Nat → Nat → Int64} {A : St} (h : RelC A im lw tl iv) (a : agC iv iv') (b : agL lv lv') {r : Option XR} {v : Int32} (e : r = some (some (.inl v), (SS im lw tl, iv', lv'))) : CF im lw tl iv lv r (v, A) := ⟨iv', lv', e, h.ag a, a.fr (by simp) (by simp), b⟩
def CActF (k : Nat) (as : XS) (F : St → Int32 × St) : Prop := ∀ (X : XE) (d : Nat) (im lw : List (Option Nat)) (tl : List XC) (iv : Nat → Nat → Int32) (lv : Nat → Nat → Int64) (A : St), RelC A im lw tl iv → OKA A → CF im lw tl iv lv (call X xT (d + 12) k (.inr (.inr (some 0)) :: as) (SS im lw tl, iv, lv)) (F A)
theorem C_crackF (t p : Int32) : CActF 125 [.inl t, .inl p] (a_crack t p) := by
  intro X d im lw tl iv lv A h ho
  obtain ⟨p0, p1, t0, t1, hk⟩ := cfacts h ho
  have e := h.eq
  unfold a_crack
  rw [tr125, c_hasT (sc2 im lw tl), bI_some, sg125_13, b2i_ite, t0]
  cases ht : hasV (nI (nT A.1.1)) t
  · rw [if_neg (by decide), Bool.false_and, if_neg (by decide)]
    exact cqF h rfl
  rw [if_pos rfl, Bool.true_and, c_hasP (sc2 im lw tl), bI_some, sg125_21, b2i_ite, p0]
  by_cases hp : hasV (nI (nP A.1.1)) p = true
  · rw [if_pos hp, if_pos hp]
    obtain ⟨a, ha, rfl⟩ := hasV_of (by omega) ht
    obtain ⟨b, hb, rfl⟩ := hasV_of (by omega) hp
    rw [nI_clamp (show a < 2 ^ 31 by omega), nI_clamp (show b < 2 ^ 31 by omega)]
    obtain ⟨iv1, lv1, g1, g2, g3⟩ := c_may X (d + 6) lv h ho (sc2 im lw tl) (by decide) (t := a) (p := b) (by omega) (by omega)
    rw [mayV_eq e _ (by omega) (by omega)] at g1
    rw [g1, bI_some, sg125_34, b2i_ite]
    by_cases hm : mayV A.1.1 (lawOf A.1) a b = true
    · rw [if_pos hm, if_pos hm]
      obtain ⟨iv2, k1, k2, k3⟩ := c_keep X (d + 9) lv1 (h.ag g2) ho (nI 0)
      have ho2 := ho.stU (ho.push (k := 0) (by decide))
      obtain ⟨r, r1, r2⟩ := c_force (X := X) (d := d + 9) (lv := lv1) k2 ho2
      obtain ⟨iv3, lv3, m1, m2, m3⟩ := c_react X (d + 6) im lw tl iv2 lv1 (sc2 im lw tl) (by decide) (r2 iv2 (fun _ _ => rfl)).S (t := a) (p := b) (by omega) (by omega)
      have e2 : eqS (iv2 3) A.1.1 := k2.eq
      have e3 : iv3 3 = iv2 3 := m2 3 (by decide) (by decide)
      rw [reaV_eq e2 _ _ (by omega) (by omega)] at m1
      have m1' : call X xT (d + 11) 53 [.inr (.inr (some 17)), .inr (.inr (some 2)), .inr (.inr r), .inl (nI a), .inl (nI b)] (SS im lw tl, iv2, lv1) = some (some (.inl (reaV A.1.1 (lawOf A.1).1 (lawOf A.1).2 a b)), (SS im lw tl, iv3, lv3)) := m1
      rw [k1, bV_some, sg125_49, r1, bR_some, sg125_61, m1', bI_some, sg125_66, c_reactF (sc2 im lw tl) p1 (by omega) (by omega) (by rw [e3, e2 0 (by omega)]; exact hk.np.1), bV_some, sg125_76]
      refine ⟨_, lv3, rfl, RelC.sc (k2.ag m2) (f := reactF A.1.1 (nP A.1.1) (reaV A.1.1 (lawOf A.1).1 (lawOf A.1).2 a b) a b) ?_, ?_, g3.tr m3⟩
      · rw [e3]; exact reactF_eq e2 _ p1 (by omega) (by omega)
      · exact (((g2.fr (by simp) (by simp) : frA _ _).tr (k3.mo (by intro x hx; simp at hx ⊢; omega))).tr (m2.fr (by simp) (by simp))).tr (fr_upr _ _ (by simp))
    · rw [if_neg hm, if_neg hm]
      exact cq2F h g2 g3 rfl
  · rw [if_neg hp, if_neg hp]
    exact cqF h rfl
theorem C_feedF (t p : Int32) : CActF 121 [.inl t, .inl p] (a_feed t p) := by
  intro X d im lw tl iv lv A h ho
  obtain ⟨p0, p1, t0, t1, hk⟩ := cfacts h ho
  have e := h.eq
  unfold a_feed
  rw [tr121, c_hasT (sc2 im lw tl), bI_some, sg121_13, b2i_ite, t0]
  cases ht : hasV (nI (nT A.1.1)) t
  · rw [if_neg (by decide), Bool.false_and, if_neg (by decide)]
    exact cqF h rfl
  rw [if_pos rfl, Bool.true_and, c_hasP (sc2 im lw tl), bI_some, sg121_21, b2i_ite, p0]
  by_cases hp : hasV (nI (nP A.1.1)) p = true
  · rw [if_pos hp, if_pos hp]
    obtain ⟨a, ha, rfl⟩ := hasV_of (by omega) ht
    obtain ⟨b, hb, rfl⟩ := hasV_of (by omega) hp
    rw [nI_clamp (show a < 2 ^ 31 by omega), nI_clamp (show b < 2 ^ 31 by omega), c_get0 (sc2 im lw tl) (by omega), bI_some, sg121_34, e _ (by omega)]
    obtain ⟨q, q1, q2⟩ := hk.m (t := a) (by omega)
    by_cases hm : A.1.1 (27 + a) < nI 1
    · rw [if_pos hm, if_neg (fun q => by rw [fb_le] at q; rw [fb_lt] at hm; omega)]
      exact cqF h rfl
    · rw [if_neg hm, if_pos (by rw [fb_le]; rw [fb_lt] at hm; omega)]
      obtain ⟨iv2, k1, k2, k3⟩ := c_keep X (d + 9) lv h ho (nI 1)
      have e2 : eqS (iv2 3) A.1.1 := k2.eq
      have e3 : eqS (feedF (iv2 3) a b) (feedF A.1.1 a b) := feedF_eq e2 (by omega) (by omega)
      rw [k1, bV_some, sg121_50, c_feeding X (d + 7) im lw tl iv2 lv (sc2 im lw tl) (by omega) (by omega), bV_some, sg121_60, c_get0 (sc2 im lw tl) (by omega), bI_some, sg121_66, upr_self, e3 _ (by omega)]
      exact ⟨_, lv, rfl, RelC.sc k2 (f := feedF A.1.1 a b) e3, (k3.mo (L' := [3, 18, 20, 30, 31, 32]) (by intro x hx; simp at hx ⊢; omega)).tr (fr_upr _ _ (by simp)), agL.rf⟩
  · rw [if_neg hp, if_neg hp]
    exact cqF h rfl
theorem C_moveF (p b : Int32) : CActF 124 [.inl p, .inl b] (a_move p b) := by
  intro X d im lw tl iv lv A h ho
  obtain ⟨p0, p1, t0, t1, hk⟩ := cfacts h ho
  have e := h.eq
  unfold a_move
  rw [tr124, c_within X (d + 10), bI_some, sg124_14, b2i_ite]
  by_cases hb : inV b (nI 7) = true
  · rw [if_pos hb, if_pos hb, c_hasP (sc2 im lw tl), bI_some, sg124_24, b2i_ite, p0]
    by_cases hp : hasV (nI (nP A.1.1)) p = true
    · rw [if_pos hp, if_pos hp]
      obtain ⟨q, hq, rfl⟩ := hasV_of (by omega) hp
      rw [nI_clamp (show q < 2 ^ 31 by omega)]
      obtain ⟨r, r1, r2⟩ := c_onTub (X := X) (d := d + 9) (lv := lv) (sc2 im lw tl) b p1 p0
      rw [tubV_eq e b _ _ (by omega)] at r2
      rw [r1, bI_some, sg124_35]
      by_cases ht : tubV A.1.1 b (nP A.1.1) 0 = true
      · rw [if_pos ht, if_neg (fun q => by rw [r2.mp q] at ht; cases ht)]
        exact cqF h rfl
      · rw [if_neg ht, if_pos (r2.mpr (by simpa using ht))]
        obtain ⟨iv2, k1, k2, k3⟩ := c_keep X (d + 9) lv h ho (nI 2)
        have e2 : eqS (iv2 3) A.1.1 := k2.eq
        rw [k1, bV_some, sg124_51, c_get0 (sc2 im lw tl) (by omega), bI_some, sg124_58, c_set0 (sc2 im lw tl) (by omega), bV_some, sg124_68, e2 _ (by omega)]
        exact ⟨_, lv, rfl, RelC.sc k2 (f := pu A.1.1 (17 + q) b) (e2.put _ _), (k3.mo (L' := [3, 18, 20, 30, 31, 32]) (by intro x hx; simp at hx ⊢; omega)).tr (fr_upr _ _ (by simp)), agL.rf⟩
    · rw [if_neg hp, if_neg hp]
      exact cqF h rfl
  · rw [if_neg hb, if_neg hb]
    exact cqF h rfl
theorem C_passF : CActF 114 [] a_pass := by
  intro X d im lw tl iv lv A h ho
  obtain ⟨p0, p1, t0, t1, hk⟩ := cfacts h ho
  have e := h.eq
  unfold a_pass
  rw [tr114, c_day0 (sc2 im lw tl), bI_some, sg114_12, e 2 (by omega)]
  by_cases hd : A.1.1 2 < nI 999
  · rw [if_pos hd, if_pos hd]
    obtain ⟨iv2, k1, k2, k3⟩ := c_keep X (d + 9) lv h ho (nI 3)
    have e2 : eqS (iv2 3) A.1.1 := k2.eq
    have ho2 := ho.stU (ho.push (k := 3) (by decide))
    obtain ⟨r, r1, r2⟩ := c_force (X := X) (d := d + 9) (lv := lv) k2 ho2
    obtain ⟨iv3, lv3, m1, m2, m3, m4⟩ := c_nextDay X (d + 6) im lw tl iv2 lv (sc2 im lw tl) (by decide) (by decide) p1 t1 ((e2 0 (by omega)).trans hk.np.1) ((e2 1 (by omega)).trans hk.nt.1) (r2 iv2 (fun _ _ => rfl))
    have e3 : eqS (iv3 3) (dayW A.1) := by
      rw [m2]
      exact dayF_eq e2 _ _ p1 t1
    rw [k1, bV_some, sg114_30, r1, bR_some, sg114_42, m1, bV_some, sg114_45, c_day0 (sc2 im lw tl), bI_some, sg114_49, e3 2 (by omega)]
    refine ⟨iv3, lv3, rfl, ?_, (k3.mo (L' := [3, 18, 20, 30, 31, 32]) (by intro x hx; simp at hx ⊢; omega)).tr (m3.mo (by intro x hx; simp at hx ⊢; omega)), m4⟩
    have hx := RelC.sc k2 (g := iv3 3) (f := dayW A.1) e3
    refine RelC.fr hx (fun a ha => ?_) (fun a ha => ?_)
    · by_cases c : a = 3
      · subst c; rw [upr_self]
      · rw [upr_off _ _ _ c]; exact m3 a (by simp [ncC] at ha; simp; omega)
    · rw [upr_off _ _ _ (by omega)]; exact m3 a (by simp; omega)
  · rw [if_neg hd, if_neg hd]
    exact cqF h rfl
