/-! orders: the acts of the reference with all that they leave -/
def frR (iv iv' : Nat → Nat → Int32) : Prop := ∀ a k, (a = 51 → 848 ≤ k) → a ≠ 52 → ¬ (a = 46 ∧ k = 8) → iv' a k = iv a k
def frMA (iv iv' : Nat → Nat → Int32) : Prop := ∀ a k, a ∉ [48, 52, 67, 68] → (a = 51 → 848 ≤ k) → ¬ (a = 46 ∧ (k = 8 ∨ k = 34 ∨ k = 38)) → iv' a k = iv a k
theorem frMA.rf {iv : Nat → Nat → Int32} : frMA iv iv := fun _ _ _ _ _ => rfl
theorem frMA.tr {a b c : Nat → Nat → Int32} (h : frMA a b) (h2 : frMA b c) : frMA a c := fun x k h3 h5 h4 => (h2 x k h3 h5 h4).trans (h x k h3 h5 h4)
theorem frMA_R {a b : Nat → Nat → Int32} (h : frR a b) : frMA a b := fun x k h3 h5 h4 => h x k h5 (by simp at h3; omega) (by omega)
theorem frMA_M {a b : Nat → Nat → Int32} (h : agM a b) : frMA a b := fun x k h3 _ h4 => h x k (by omega)
theorem frMA_G {L : List Nat} {a b : Nat → Nat → Int32} (h : frG L a b) (hL : ∀ x, x ∈ L → x = 48 ∨ x = 67 ∨ x = 68) : frMA a b := fun x k h3 _ h4 => h x k (fun q => by have := hL x q; simp at h3; omega) (by omega)
theorem frMA_F {L : List Nat} {a b : Nat → Nat → Int32} (h : fr L a b) (hL : ∀ x, x ∈ L → x = 48 ∨ x = 67 ∨ x = 68) : frMA a b := fun x k h3 _ h4 => by rw [h x (fun q => by have := hL x q; simp at h3; omega)]
theorem m_rememberF (X : XE) (d : Nat) {im lw : List (Option Nat)} {tl : List XC} {iv : Nat → Nat → Int32} {lv : Nat → Nat → Int64} {A : St} (h : RelM A iv lv) (ho : OKA A) (k : Int32) : ∃ iv', call X xT (d + 2) 267 [.inr (.inr (some 46)), .inl k] (SS im lw tl, iv, lv) = some (none, (SS im lw tl, iv', lv)) ∧ RelM (stU A (pushU A.2.2.2.1 k A.1.1)) iv' lv ∧ frR iv iv' ∧ iv' 48 = iv 48 := by
  obtain ⟨iv', c1, c2, c3, c4⟩ := m_remember X d (im := im) (lw := lw) (tl := tl) h ho k
  have key : ∃ iv2, call X xT (d + 2) 267 [.inr (.inr (some 46)), .inl k] (SS im lw tl, iv, lv) = some (none, (SS im lw tl, iv2, lv)) ∧ frR iv iv2 := by
    have lu := ho.2.2.2.1.1
    have l1 := h.2.2.2.1.1
    have fin : ∀ (w2 : Option XV) (iv1 : Nat → Nat → Int32) (n : Nat), n < 16 → iv1 46 8 = nI n → frR iv iv1 → ∃ iv', bV (call X xT (d + 1) 268 [.inr (.inr (some 46)), .inl (nI n)] (SS im lw tl, iv1, lv)) (fun h1 => run X (call X xT (d + 1)) false 0 xc267 85 [some (.inr (.inr (some 46))), some (.inl k), w2] [] h1) = some (none, (SS im lw tl, iv', lv)) ∧ frR iv iv' := by
      intro w2 iv1 n hn h8 hfr
      obtain ⟨g, g1, g2, g3⟩ := m_keepAll X d im lw tl iv1 lv (k := n) (by omega)
      rw [g1, bV_some, sg267_85, upr_off _ _ _ (show 46 ≠ 51 by decide), h8, if_pos (inb_nI hn (by omega)), nI_clamp (by omega), nI_add]
      refine ⟨_, rfl, fun a k2 h51 h52 h46 => ?_⟩
      by_cases a46 : a = 46
      · subst a46
        rw [upd2_ne _ _ _ _ (by omega), upd2_off _ _ _ _ (by omega), upr_off _ _ _ (by omega)]; exact hfr 46 k2 h51 h52 h46
      · rw [upd2_off _ _ _ _ a46, upd2_off _ _ _ _ h52]
        by_cases a51 : a = 51
        · subst a51
          rw [upr_self, g3 k2 (by have := h51 rfl; omega)]; exact hfr 51 k2 h51 h52 h46
        · rw [upr_off _ _ _ a51]; exact hfr a k2 h51 h52 h46
    rw [tr267, l1]
    by_cases c : A.2.2.2.1.length = 16
    · rw [if_pos (by rw [c])]
      obtain ⟨g, g1, g2, g3⟩ := m_shift1 X (d + 1) im lw tl lv k 795 0 iv (by omega)
      obtain ⟨q, q1, q2, q3⟩ := m_shift2 X (d + 1) im lw tl lv k 15 0 (upr iv 51 g) (by omega)
      have u46 : (upr (upr iv 51 g) 52 q) 46 = iv 46 := by rw [upr_off _ _ _ (by decide), upr_off _ _ _ (by decide)]
      rw [g1, q1, sg267_41, if_pos (by decide), u46, l1, c, show nI 16 - nI 1 = nI 15 by decide]
      refine fin _ _ 15 (by omega) (upd2_self _ _ _ _) (fun a k2 h51 h52 h46 => ?_)
      by_cases a46 : a = 46
      · subst a46; rw [upd2_ne _ _ _ _ (by omega), u46]
      · rw [upd2_off _ _ _ _ a46, upr_off _ _ _ h52]
        by_cases a51 : a = 51
        · subst a51
          rw [upr_self, g3 k2 (by have := h51 rfl; omega)]
        · rw [upr_off _ _ _ a51]
    · rw [if_neg (fun q => c ((nI_eq (by omega) (by omega)).mp q))]
      exact fin none iv A.2.2.2.1.length (by omega) l1 (fun _ _ _ _ _ => rfl)
  obtain ⟨iv2, k1, k2⟩ := key
  rw [c1] at k1
  injection k1 with k1
  injection k1 with _ k1
  injection k1 with _ k1
  injection k1 with k1 _
  subst k1
  exact ⟨_, c1, c2, k2, c4⟩
def MF (im lw : List (Option Nat)) (tl : List XC) (iv : Nat → Nat → Int32) (lv : Nat → Nat → Int64) (r : Option XR) (p : Int32 × St) : Prop := ∃ iv' lv', r = some (some (.inl p.1), (SS im lw tl, iv', lv')) ∧ RelM p.2 iv' lv' ∧ frMA iv iv' ∧ agN lv lv'
def MActF (k : Nat) (as : XS) (F : St → Int32 × St) : Prop := ∀ (X : XE) (d : Nat) (im lw : List (Option Nat)) (tl : List XC) (iv : Nat → Nat → Int32) (lv : Nat → Nat → Int64) (A : St), RelM A iv lv → OKA A → MF im lw tl iv lv (call X xT (d + 12) k (.inr (.inr (some 46)) :: as) (SS im lw tl, iv, lv)) (F A)
theorem m_qF {im lw : List (Option Nat)} {tl : List XC} {iv iv' : Nat → Nat → Int32} {lv lv' : Nat → Nat → Int64} {A : St} (h : RelM A iv lv) (a : agM iv iv') (b : agN lv lv') {r : Option XR} {v : Int32} (e : r = some (some (.inl v), (SS im lw tl, iv', lv'))) : MF im lw tl iv lv r (v, A) := ⟨iv', lv', e, h.ag a b, frMA_M a, b⟩
theorem M_crackF (t p : Int32) : MActF 265 [.inl t, .inl p] (a_crack t p) := by
  intro X d im lw tl iv lv A h ho
  obtain ⟨p0, p1, t0, t1, hk, he, hk2, h20⟩ := mfacts h ho
  unfold a_crack
  rw [tr265, m_isT X (d + 9) im lw tl _ lv t1 t0, bI_some, sg265_5, b2i_ite]
  cases ht : hasV (nI (nT A.1.1)) t
  · rw [if_neg (by decide), Bool.false_and, if_neg (by decide)]
    exact m_qF h agM.rf agN.rf rfl
  rw [if_pos rfl, Bool.true_and, m_isP X (d + 9) im lw tl _ lv p1 p0, bI_some, sg265_13, b2i_ite]
  by_cases hp : hasV (nI (nP A.1.1)) p = true
  · rw [if_pos hp, if_pos hp]
    obtain ⟨a, ha, rfl⟩ := hasV_of (by omega) ht
    obtain ⟨b, hb, rfl⟩ := hasV_of (by omega) hp
    rw [nI_clamp (show a < 2 ^ 31 by omega), nI_clamp (show b < 2 ^ 31 by omega)]
    obtain ⟨iv1, lv1, g1, g2, g3⟩ := m_may X (d + 5) im lw tl iv lv h20 (l := lawOf A.1) (h.lawG ho) hk he (t := a) (p := b) (by omega) (by omega)
    rw [g1, bI_some, sg265_25, b2i_ite]
    by_cases hm : mayV A.1.1 (lawOf A.1) a b = true
    · rw [if_pos hm, if_pos hm]
      obtain ⟨iv2, k1, k2, k3, k4⟩ := m_rememberF X (d + 9) (im := im) (lw := lw) (tl := tl) (h.ag g2 g3) ho (nI 0)
      have ho2 := ho.stU (ho.push (k := 0) (by decide))
      obtain ⟨p02, -, -, -, -, he2, -, h202⟩ := mfacts k2 ho2
      obtain ⟨iv3, lv3, m1, m2, m3, m4, m5⟩ := m_crackIt X (d + 4) im lw tl iv2 lv1 h202 (k2.lawG ho2) hk he2 p1 p02 (t := a) (p := b) (by omega) (by omega)
      have m1' : call X xT (d + 11) 269 [.inr (.inr (some 46)), .inl (nI a), .inl (nI b)] (SS im lw tl, iv2, lv1) = some (some (.inl (reaV A.1.1 (lawOf A.1).1 (lawOf A.1).2 a b)), (SS im lw tl, iv3, lv3)) := m1
      rw [k1, bV_some, sg265_36, m1', bI_some, sg265_42]
      refine ⟨iv3, lv3, rfl, RelM.sc k2 m2 m3 (frG_keep m4 (by intro x hx; simp at hx; omega)) (k2.c.N m5), ((frMA_M g2).tr (frMA_R k3)).tr (frMA_G m4 (by intro x hx; simp at hx; omega)), g3.tr m5⟩
    · rw [if_neg hm, if_neg hm]
      exact m_qF h g2 g3 rfl
  · rw [if_neg hp, if_neg hp]
    exact m_qF h agM.rf agN.rf rfl
theorem M_feedF (t p : Int32) : MActF 272 [.inl t, .inl p] (a_feed t p) := by
  intro X d im lw tl iv lv A h ho
  obtain ⟨p0, p1, t0, t1, hk, he, hk2, h20⟩ := mfacts h ho
  unfold a_feed
  rw [tr272, m_isT X (d + 9) im lw tl _ lv t1 t0, bI_some, sg272_5, b2i_ite]
  cases ht : hasV (nI (nT A.1.1)) t
  · rw [if_neg (by decide), Bool.false_and, if_neg (by decide)]
    exact m_qF h agM.rf agN.rf rfl
  rw [if_pos rfl, Bool.true_and, m_isP X (d + 9) im lw tl _ lv p1 p0, bI_some, sg272_13, b2i_ite]
  by_cases hp : hasV (nI (nP A.1.1)) p = true
  · rw [if_pos hp, if_pos hp]
    obtain ⟨a, ha, rfl⟩ := hasV_of (by omega) ht
    obtain ⟨b, hb, rfl⟩ := hasV_of (by omega) hp
    obtain ⟨q, q1, q2⟩ := hk.m (t := a) (by omega)
    have em : iv 48 (26 + a) = nI q := by rw [← q2, he (27 + a) (by omega), fM, mx_m (by omega)]
    rw [nI_clamp (show a < 2 ^ 31 by omega), nI_clamp (show b < 2 ^ 31 by omega), nI_add, if_pos (ib5k (by omega)), nI_clamp (by omega), em, q2]
    by_cases hm : q < 1
    · rw [if_pos (nI_lt hm (by omega)), if_pos (by rw [show q = 0 by omega]; decide)]
      exact m_qF h agM.rf agN.rf rfl
    · rw [if_neg (nI_nlt (by omega) (by omega)), if_neg (nI_ne0 (by omega) (by omega))]
      obtain ⟨iv2, k1, k2, k3, k4⟩ := m_rememberF X (d + 9) (im := im) (lw := lw) (tl := tl) h ho (nI 1)
      have he2 : eqS A.1.1 (fM (iv2 48)) := k2.1.1
      have em2 : iv2 48 (26 + a) = nI q := by rw [k4]; exact em
      have nq : near (nI 99) (A.1.1 (27 + a) + (-1)) = nI q - nI 1 := by
        rw [q2, sb1, show q = q - 1 + 1 by omega, pk_m1]
        unfold near
        by_cases z : q - 1 < 99
        · rw [if_pos (nI_lt z (by omega))]
          by_cases z2 : 0 < q - 1
          · rw [if_pos (nI_lt z2 (by omega))]
          · rw [if_neg (nI_nlt (by omega) (by omega)), show q - 1 = 0 by omega]
        · omega
      rw [k1, bV_some, sg272_39, nI_add, if_pos (ib5k (by omega)), if_pos (ib5k (by omega)), nI_clamp (by omega), em2, ← nq, ← mx_m (show a < 4 by omega)]
      obtain ⟨iv3, m1, m2, m3, m4⟩ := m_feedIt X (d + 9) im lw tl (upd2 iv2 48 (mx (27 + a)) (near (nI 99) (A.1.1 (27 + a) + (-1)))) lv (t := a) (p := b) (f := pu A.1.1 (27 + a) (near (nI 99) (A.1.1 (27 + a) + (-1)))) (by rw [upd2_rw]; exact eqS_pu he2 (by omega) _) (by omega) (by omega)
      have ef : feedF A.1.1 a b = eatF (pu A.1.1 (27 + a) (near (nI 99) (A.1.1 (27 + a) + (-1)))) a b := by
        unfold feedF
        rw [if_neg (by rw [q2]; exact nI_nlt (by omega) (by omega))]
      rw [m1, bV_some, sg272_58, nI_add, if_pos (ib5k (by omega)), nI_clamp (by omega), ← mx_h (show b < 6 by omega), ef]
      have m2' := m2 (5 + b) (by omega)
      rw [show iv3 48 (mx (5 + b)) = fM (iv3 48) (5 + b) from rfl, ← m2']
      rw [upd2_rw] at m3
      refine ⟨iv3, lv, rfl, RelM.sc k2 m2 ((rowS_pu _ (by omega) _).tr m3) (frG_keep (L := [48]) (((fr_upd _ _ _ (by simp)).tr m4).G) (by intro x hx; simp at hx; omega)) k2.c, (frMA_R k3).tr (frMA_F (L := [48]) ((fr_upd _ _ _ (by simp)).tr m4) (by intro x hx; simp at hx; omega)), agN.rf⟩
  · rw [if_neg hp, if_neg hp]
    exact m_qF h agM.rf agN.rf rfl
theorem M_moveF (p b : Int32) : MActF 275 [.inl p, .inl b] (a_move p b) := by
  intro X d im lw tl iv lv A h ho
  obtain ⟨p0, p1, t0, t1, hk, he, hk2, h20⟩ := mfacts h ho
  unfold a_move
  rw [tr275, tr206, m_in X (d + 9), bI_some, sg206_9, if_pos (is01_b2i _), bI_some, sg275_4, b2i_ite, in_inV b (top := 7) (by decide)]
  by_cases hb : inV b (nI 7) = true
  · rw [if_pos hb, if_pos hb, m_isP X (d + 9) im lw tl _ lv p1 p0, bI_some, sg275_14, b2i_ite]
    by_cases hp : hasV (nI (nP A.1.1)) p = true
    · rw [if_pos hp, if_pos hp]
      obtain ⟨q, hq, rfl⟩ := hasV_of (by omega) hp
      rw [nI_clamp (show q < 2 ^ 31 by omega)]
      obtain ⟨r, r1, r2⟩ := m_onTub X (d + 10) im lw tl iv lv he p1 p0 b
      rw [r1, bI_some, sg275_25]
      by_cases ht : tubV A.1.1 b (nP A.1.1) 0 = true
      · rw [if_pos ht, if_neg (fun q => by rw [r2.mp q] at ht; cases ht)]
        exact m_qF h agM.rf agN.rf rfl
      · rw [if_neg ht, if_pos (r2.mpr (by simpa using ht))]
        obtain ⟨iv2, k1, k2, k3, k4⟩ := m_rememberF X (d + 9) (im := im) (lw := lw) (tl := tl) h ho (nI 2)
        have he2 : eqS A.1.1 (fM (iv2 48)) := k2.1.1
        have em2 : iv2 48 (20 + q) = A.1.1 (17 + q) := by rw [he2 (17 + q) (by omega), fM, mx_b (by omega)]
        rw [k1, bV_some, sg275_37, nI_add, if_pos (ib5k (by omega)), if_pos (ib5k (by omega)), nI_clamp (by omega), em2, ← mx_b (show q < 6 by omega)]
        exact ⟨_, lv, rfl, RelM.pu k2 (by omega) b, (frMA_R k3).tr (frMA_F (L := [48]) (fr_upd _ _ _ (by simp)) (by intro x hx; simp at hx; omega)), agN.rf⟩
    · rw [if_neg hp, if_neg hp]
      exact m_qF h agM.rf agN.rf rfl
  · rw [if_neg hb, if_neg hb]
    exact m_qF h agM.rf agN.rf rfl
theorem M_passF : MActF 277 [] a_pass := by
  intro X d im lw tl iv lv A h ho
  obtain ⟨p0, p1, t0, t1, hk, he, hk2, h20⟩ := mfacts h ho
  obtain ⟨dy, d1, d2⟩ := hk.d
  have ed : iv 48 5 = nI dy := by rw [← d2]; exact (he 2 (by omega)).symm
  unfold a_pass
  rw [tr277, ed, d2]
  by_cases hd : dy < 999
  · rw [if_pos (nI_lt hd (by omega)), if_neg (fun q => by have := (nI_eq (by omega) (by omega)).mp q; omega)]
    obtain ⟨iv2, k1, k2, k3, k4⟩ := m_rememberF X (d + 9) (im := im) (lw := lw) (tl := tl) h ho (nI 3)
    have ho2 := ho.stU (ho.push (k := 3) (by decide))
    obtain ⟨-, -, -, -, -, he2, -, h202⟩ := mfacts k2 ho2
    obtain ⟨iv3, lv3, m1, m2, m3, m4, m5⟩ := m_passIt X (d + 5) im lw tl iv2 lv h202 (k2.lawG ho2) he2 p1 t1 hk.np.1 hk.nt.1 d2 hd
    have e5 : iv3 48 5 = dayW A.1 2 := (m2 2 (by omega)).symm
    rw [k1, bV_some, sg277_20, m1, bV_some, sg277_24, e5]
    refine ⟨iv3, lv3, rfl, RelM.sc k2 m2 m3 (frG_keep m4 (by intro x hx; simp at hx; omega)) (k2.c.N m5), (frMA_R k3).tr (frMA_G m4 (by intro x hx; simp at hx; omega)), m5⟩
  · rw [if_neg (nI_nlt (by omega) (by omega)), if_pos (by rw [show dy = 999 by omega])]
    exact m_qF h agM.rf agN.rf rfl
