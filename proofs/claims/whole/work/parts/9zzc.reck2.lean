/-! orders: the reference reckons with the words of orders -/
def oWS (f : Sc) (r l : Int32) (iv : Nat → Nat → Int32) (lv : Nat → Nat → Int64) : Prop := eqS f (fM (iv 48)) ∧ iv 48 0 = nI (nP f) ∧ nP f ≤ 6 ∧ iv 48 1 = nI (nT f) ∧ nT f ≤ 4 ∧ lv 65 1 = (f 2).toInt64 ∧ lv 65 2 = r.toInt64 ∧ lv 65 3 = l.toInt64
theorem m1L : (-1 : Int32).toInt64 = lN 18446744073709551615 := by decide
theorem m_214 (X : XE) (d : Nat) (im lw : List (Option Nat)) (tl : List XC) {iv : Nat → Nat → Int32} (lv lw2 : Nat → Nat → Int64) {f : Sc} {r l : Int32} (h : oWS f r l iv lw2) {o a : Nat} (ho : o = 4 ∨ o = 5) (ha : a < 1000000) : call X xT (d + 3) 214 [.inr (.inr (some 46)), .inl (nI o), .inl (nI a)] (SS im lw tl, iv, lv) = some (some (.inl (if a < 6 then oW f r l ((if o = 4 then 3 else 9) + a) else -1)), (SS im lw tl, iv, lv)) := by
  obtain ⟨he, p0, p1, t0, t1, -, -, -⟩ := h
  rw [tr214, m_isP X d im lw tl iv lv p1 p0, bI_some, sg214_5, b2i_ite]
  by_cases hp : a < nP f
  · rw [hasV_nI hp (by omega), if_pos rfl, if_pos (show a < 6 by omega)]
    rcases ho with e | e <;> subst e
    · rw [if_pos rfl, nI_add, if_pos (inb_nI (by omega) (by omega)), nI_clamp (by omega), if_pos rfl]
      unfold oW
      rw [if_neg (by omega), if_neg (by omega), if_neg (by omega), if_pos (by omega)]
      unfold oWp
      rw [if_pos (by omega), show 3 + a - 3 = a by omega, he (5 + a) (by omega), fM, mx_h (by omega)]
    · rw [if_neg (by decide), nI_add, if_pos (inb_nI (by omega) (by omega)), nI_clamp (by omega), if_neg (by decide)]
      unfold oW
      rw [if_neg (by omega), if_neg (by omega), if_neg (by omega), if_neg (by omega), if_pos (by omega)]
      unfold oWp
      rw [if_pos (by omega), show 9 + a - 9 = a by omega, he (11 + a) (by omega), fM, mx_t (by omega)]
  · rw [hasV_no hp (by omega), if_neg (by decide)]
    by_cases h6 : a < 6
    · rw [if_pos h6]
      rcases ho with e | e <;> subst e
      · rw [if_pos rfl]
        unfold oW
        rw [if_neg (by omega), if_neg (by omega), if_neg (by omega), if_pos (by omega)]
        unfold oWp
        rw [if_neg (by omega)]
      · rw [if_neg (by decide)]
        unfold oW
        rw [if_neg (by omega), if_neg (by omega), if_neg (by omega), if_neg (by omega), if_pos (by omega)]
        unfold oWp
        rw [if_neg (by omega)]
    · rw [if_neg h6]
theorem oW_t (f : Sc) (r l : Int32) {o a : Nat} (ha : a < 4) : oW f r l ((if o = 6 then 15 else 19) + a) = oWp f (if o = 6 then 27 else 31) (nT f) a := by
  unfold oW
  by_cases e : o = 6
  · rw [if_pos e, if_pos e, if_neg (by omega), if_neg (by omega), if_neg (by omega), if_neg (by omega), if_neg (by omega), if_pos (by omega), show 15 + a - 15 = a by omega]
  · rw [if_neg e, if_neg e, if_neg (by omega), if_neg (by omega), if_neg (by omega), if_neg (by omega), if_neg (by omega), if_neg (by omega), show 19 + a - 19 = a by omega]
theorem m_reckO (X : XE) (d : Nat) (im lw : List (Option Nat)) (tl : List XC) (iv : Nat → Nat → Int32) (lv : Nat → Nat → Int64) {C : Cd} (hC : C.length ≤ 400) (hcm : cdM iv C) (hbd : ∀ i, i < C.length → (C.getD i (0, 0)).1 ≤ 30 ∧ (C.getD i (0, 0)).2 < 1000000 ∧ ((C.getD i (0, 0)).1 < 20 → (C.getD i (0, 0)).1 ≤ 10)) (h20 : iv 46 20 = nI 1) {f : Sc} {r l : Int32} (hw : oWS f r l iv lv) {a z m : Nat} (hz : z ≤ C.length) (ha : a ≤ 400) {res : Option Int64} (hev : evm (fun k => C.getD k (0, 0)) (wvG true (oW f r l)) z m a [] = some res) :
    ∃ iv' lv', call X xT (d + 4) 213 [.inr (.inr (some 46)), .inl (nI a), .inl (nI z)] (SS im lw tl, iv, lv) = some (none, (SS im lw tl, iv', lv')) ∧ iv' 46 38 = b2i res.isNone ∧ (∀ v, res = some v → lv' 46 39 = v) ∧ (∀ p k, ¬ (p = 46 ∧ k = 38) → iv' p k = iv p k) ∧ ∀ p k, p ≠ 66 → ¬ (p = 46 ∧ k = 39) → lv' p k = lv p k := by
  have r3 : (upd2 iv 46 38 (nI 0)) 46 38 = nI 0 := upd2_self _ _ _ _
  have r2 : (upd2 iv 46 38 (nI 0)) 46 20 = nI 1 := by rw [upd2_ne _ _ _ _ (by omega)]; exact h20
  have of : ∀ p, p ≠ 46 → (upd2 iv 46 38 (nI 0)) p = iv p := fun p hp => upd2_off _ _ _ _ hp
  have gt : ∀ k, k < z → iv 57 k = nI (C.getD k (0, 0)).1 ∧ iv 58 k = nI (C.getD k (0, 0)).2 := fun k hk => hcm k _ (by rw [List.getD_eq_getElem?_getD, List.getElem?_eq_getElem (by omega)]; rfl)
  obtain ⟨he, p0, p1, t0, t1, w1, w2, w3⟩ := hw
  have hw' : oWS f r l (upd2 iv 46 38 (nI 0)) lv := ⟨by rw [of 48 (by decide)]; exact he, by rw [of 48 (by decide)]; exact p0, p1, by rw [of 48 (by decide)]; exact t0, t1, w1, w2, w3⟩
  have H2 : ∀ (k m : Nat) (g : Nat → Int64) (w5 w6 : Option XV), k < z → run X (call X xT (d + 3)) false 0 xc213 10 [some (.inr (.inr (some 46))), some (.inl (nI a)), some (.inl (nI z)), some (.inl (nI m)), some (.inl (nI k)), w5, w6] [] (SS im lw tl, upd2 iv 46 38 (nI 0), upr lv 66 g) = run X (call X xT (d + 3)) false 0 xc213 95 [some (.inr (.inr (some 46))), some (.inl (nI a)), some (.inl (nI z)), some (.inl (nI m)), some (.inl (nI k)), some (.inl (nI (C.getD k (0, 0)).1)), w6] [.inl (nI (C.getD k (0, 0)).2)] (SS im lw tl, upd2 iv 46 38 (nI 0), upr lv 66 g) := by
    intro k m g w5 w6 hk
    rw [sg213_10, if_neg (nI_ge hk (by omega)), r3, if_pos nI0_eq0, r2, if_neg n1z, if_pos (inb_nI (by omega) (by omega)), nI_clamp (by omega), of 57 (by decide), (gt k hk).1, sg213_57, r2, if_neg n1z, if_pos (inb_nI (by omega) (by omega)), nI_clamp (by omega), of 58 (by decide), (gt k hk).2]
  have H1 : ∀ (k m : Nat) (g : Nat → Int64) (w6 : Option XV), k < z → m < 400 → (C.getD k (0, 0)).1 < 20 → run X (call X xT (d + 3)) false 0 xc213 95 [some (.inr (.inr (some 46))), some (.inl (nI a)), some (.inl (nI z)), some (.inl (nI m)), some (.inl (nI k)), some (.inl (nI (C.getD k (0, 0)).1)), w6] [.inl (nI (C.getD k (0, 0)).2)] (SS im lw tl, upd2 iv 46 38 (nI 0), upr lv 66 g) = run X (call X xT (d + 3)) false 0 xc213 10 [some (.inr (.inr (some 46))), some (.inl (nI a)), some (.inl (nI z)), some (.inl (nI (m + 1))), some (.inl (nI (k + 1))), some (.inl (nI (C.getD k (0, 0)).1)), some (.inl (nI (C.getD k (0, 0)).2))] [] (SS im lw tl, upd2 iv 46 38 (nI 0), upr lv 66 (pu g m (if (C.getD k (0, 0)).1 = 0 then (nI (C.getD k (0, 0)).2).toInt64 else wvG true (oW f r l) (C.getD k (0, 0)).1 (C.getD k (0, 0)).2))) := by
    intro k m g w6 hk hm ho
    obtain ⟨b1, b2, b3⟩ := hbd k (by omega)
    have b3 := b3 ho
    generalize (C.getD k (0, 0)).1 = o at ho b1 b3
    generalize (C.getD k (0, 0)).2 = q at b2
    have fin : ∀ (x : Int64) (y : Int64), x = y → run X (call X xT (d + 3)) false 0 xc213 222 [some (.inr (.inr (some 46))), some (.inl (nI a)), some (.inl (nI z)), some (.inl (nI m)), some (.inl (nI (k + 1))), some (.inl (nI o)), some (.inl (nI q))] [.inr (.inl x), .inl (nI m), .inr (.inr (some 66))] (SS im lw tl, upd2 iv 46 38 (nI 0), upr lv 66 g) = run X (call X xT (d + 3)) false 0 xc213 10 [some (.inr (.inr (some 46))), some (.inl (nI a)), some (.inl (nI z)), some (.inl (nI (m + 1))), some (.inl (nI (k + 1))), some (.inl (nI o)), some (.inl (nI q))] [] (SS im lw tl, upd2 iv 46 38 (nI 0), upr lv 66 (pu g m y)) := by
      intro x y e
      rw [sg213_222, if_pos (inb_nI hm (by omega)), sg213_368, nI_clamp (by omega), upd2_upr, nI_add, e]
    rw [sg213_95, if_neg (nI_ge ho (by omega)), r2, nI_add]
    by_cases e : o = 0
    · rw [if_pos (by rw [e]; exact nI0_eq0)]
      exact fin _ _ (by rw [if_pos e])
    rw [if_neg (nI_ne0 (by omega) (by omega)), if_neg n1z]
    have eW : (if o = 0 then (nI q).toInt64 else wvG true (oW f r l) o q) = (if o < 4 then oW f r l (o - 1) else if o < 6 then (if q < 6 then oW f r l ((if o = 4 then 3 else 9) + q) else -1) else (if q < 4 then oW f r l ((if o = 6 then 15 else 19) + q) else -1)).toInt64 := by
      rw [if_neg e]
      show (if (true = true) then _ else _) = _
      rw [if_pos rfl]
    rw [eW]
    by_cases h4 : 4 ≤ o
    · rw [if_pos (nI_le h4 (by omega)), if_neg (show ¬ o < 4 by omega)]
      by_cases h6 : 6 ≤ o
      · rw [if_pos (nI_le h6 (by omega)), if_neg (show ¬ o < 6 by omega), m_isT X (d + 1) im lw tl _ _ (n := nT f) t1 (by rw [of 48 (by decide)]; exact t0), bI_some, sg213_181, b2i_ite]
        by_cases ht : q < nT f
        · rw [hasV_nI ht (by omega), if_pos rfl, if_pos (show q < 4 by omega), oW_t f r l (show q < 4 by omega)]
          unfold oWp
          rw [if_pos ht]
          by_cases e6 : o = 6
          · rw [if_pos (show nI o = nI 6 by rw [e6]), nI_add, if_pos (inb_nI (by omega) (by omega)), nI_clamp (by omega), if_pos e6]
            exact fin _ _ (by rw [of 48 (by decide), he (27 + q) (by omega), fM, mx_m (by omega)])
          · rw [if_neg (fun w => e6 ((nI_eq (by omega) (by omega)).mp w)), nI_add, if_pos (inb_nI (by omega) (by omega)), nI_clamp (by omega), if_neg e6]
            exact fin _ _ (by rw [of 48 (by decide), he (31 + q) (by omega), fM, mx_a (by omega)])
        · rw [hasV_no ht (by omega), if_neg (by decide)]
          refine fin _ _ ?_
          by_cases q4 : q < 4
          · rw [if_pos q4, oW_t f r l q4]
            unfold oWp
            rw [if_neg ht, m1L]
          · rw [if_neg q4, m1L]
      · rw [if_neg (nI_ge (by omega) (by omega)), if_pos (show o < 6 by omega), m_214 X d im lw tl (upr lv 66 g) lv hw' (by omega) b2, bI_some, sg213_171]
        exact fin _ _ rfl
    · rw [if_neg (nI_ge (by omega) (by omega)), if_pos (inb_nI (by omega) (by omega)), nI_clamp (by omega), if_pos (show o < 4 by omega)]
      refine fin _ _ ?_
      rw [upr_off _ _ _ (show 65 ≠ 66 by decide)]
      rcases (show o = 1 ∨ o = 2 ∨ o = 3 by omega) with c | c | c <;> subst c
      · exact w1
      · exact w2
      · exact w3
  obtain ⟨f', x, g1, g2⟩ := m_reck_loop X (d + 2) im lw tl (upd2 iv 46 38 (nI 0)) lv r3 (by omega) (fun k hk => ⟨(hbd k (by omega)).1, (hbd k (by omega)).2.1⟩) (nI a) H2 H1 m a [] (lv 66) none none res (by omega) (by simp) trivial hev
  rw [upr_id] at g1
  refine ⟨upd2 (upd2 iv 46 38 (nI 0)) 46 38 (b2i res.isNone), upd2 (upr lv 66 f') 46 39 x, ?_, ?_, ?_, ?_, ?_⟩
  · rw [tr213]; exact g1
  · rw [upd2_self]
  · intro v hv; rw [upd2_self]; exact g2 v hv
  · intro p k hp
    rw [upd2_ne _ _ _ _ hp, upd2_ne _ _ _ _ hp]
  · intro p k hp hq
    rw [upd2_ne _ _ _ _ hq, upr_off _ _ _ hp]
