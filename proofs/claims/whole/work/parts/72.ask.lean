/-! calls: ask -/
def bitV (x : Int32) (v : Nat) : Bool := decide ((x >>> (nI v &&& 31)) &&& nI 1 = nI 1)
theorem bit_0 (x : Int32) (v : Nat) : ((x >>> (nI v &&& 31)) &&& nI 1 = 0) ↔ bitV x v = false := by
  unfold bitV
  obtain ⟨j, hj, e⟩ := pk_andE (x >>> (nI v &&& 31)) (m := nI 1) 1 (by decide)
  rw [e]
  have : j = 0 ∨ j = 1 := by omega
  rcases this with rfl | rfl <;> decide
def aRe (f : Sc) (l : Lw) (t p v : Nat) : Nat := (reaV (pu f (11 + p) (nI v)) l.1 l.2 t p).toNatClampNeg
theorem aRe_lt (f : Sc) (l : Lw) (t p v : Nat) : aRe f l t p v < 3 ∧ reaV (pu f (11 + p) (nI v)) l.1 l.2 t p = nI (aRe f l t p v) := by
  unfold aRe reaV
  split
  · split <;> decide
  · decide
/-- how often each reaction, tempers from v on -/
def alkF (f : Sc) (l : Lw) (t p : Nat) (b : Int32) : Nat → Nat → (Nat → Nat) → (Nat → Nat)
  | 0, _, c => c
  | m + 1, v, c => alkF f l t p b m (v + 1) (if bitV b v = true then pu c (aRe f l t p v) (c (aRe f l t p v) + 1) else c)
def max3 (c : Nat → Nat) : Nat := max (max (c 0) (c 1)) (c 2)
theorem max3_pu (c : Nat → Nat) {r : Nat} (hr : r < 3) : max3 (pu c r (c r + 1)) = max (max3 c) (c r + 1) := by
  have : r = 0 ∨ r = 1 ∨ r = 2 := by omega
  unfold max3
  rcases this with rfl | rfl | rfl <;> simp [pu] <;> omega
def alkV (f : Sc) (l : Lw) (b : Int32) (t p : Nat) : Int32 := nI (max3 (alkF f l t p b 10 0 (fun _ => 0)))
theorem c_fill (X : XE) (d : Nat) (im lw : List (Option Nat)) (tl : List XC) (iv : Nat → Nat → Int32) (lv : Nat → Nat → Int64) : call X xT (d + 1) 171 [.inr (.inr (some 44)), .inl (nI 0)] (SS im lw tl, iv, lv) = some (none, (SS im lw tl, upd2 (upd2 (upd2 iv 44 0 (nI 0)) 44 1 (nI 0)) 44 2 (nI 0), lv)) := by
  have st : ∀ (iv : Nat → Nat → Int32) (j : Nat), j < 3 → run X (call X xT d) false 0 xc171 5 [some (.inr (.inr (some 44))), some (.inl (nI 0)), some (.inl (nI j)), some (.inl (nI 3))] [] (SS im lw tl, iv, lv) = run X (call X xT d) false 0 xc171 5 [some (.inr (.inr (some 44))), some (.inl (nI 0)), some (.inl (nI (j + 1))), some (.inl (nI 3))] [] (SS im lw tl, upd2 iv 44 j (nI 0), lv) := by
    intro iv j hj
    rw [sg171_5, if_neg (nI_ge hj (by omega)), arr_ok (S := SS im lw tl) (a := 44) (c := (50, 3, [])) rfl rfl (inb_nI hj (by omega)), nI_clamp (by omega), nI_add]
  rw [tr171, alen_ok X (S := SS im lw tl) (a := 44) (c := (50, 3, [])) (by decide) rfl (by decide), st _ 0 (by omega), st _ 1 (by omega), st _ 2 (by omega), sg171_5, if_pos (by decide)]
theorem c_alk_loop (X : XE) (d : Nat) {im lw : List (Option Nat)} {tl : List XC} {A : St} (ho : OKA A) {t p : Nat} (ht : t < 4) (hp : p < 6) (b : Int32) : ∀ (m v : Nat) (c : Nat → Nat) (w6 : Option XV) (iv : Nat → Nat → Int32) (lv : Nat → Nat → Int64), v + m = 10 → (∀ k, k < 3 → c k ≤ v ∧ iv 44 k = nI (c k)) → RelC A im lw tl iv → (∀ j, j < 59 → j ≠ 11 + p → iv 39 j = A.1.1 j) → ∃ iv' lv', run X (call X xT (d + 5)) false 1 xc170 28 [some (.inr (.inr (some 0))), some (.inl (nI t)), some (.inl (nI p)), some (.inl b), some (.inl (nI (max3 c))), some (.inl (nI v)), w6] [] (SS im lw tl, iv, lv) = some (some (.inl (nI (max3 (alkF A.1.1 (lawOf A.1) t p b m v c)))), (SS im lw tl, iv', lv')) ∧ fr scrC iv iv' ∧ agL lv lv' := by
  intro m
  induction m with
  | zero =>
    intro v c w6 iv lv hv hc h hf
    rw [sg170_28, if_pos (nI_lt (by omega) (by omega))]
    exact ⟨iv, lv, rfl, fr.rf, agL.rf⟩
  | succ m ih =>
    intro v c w6 iv lv hv hc h hf
    rw [sg170_28, if_neg (nI_nlt (by omega) (by omega))]
    simp only [alkF]
    by_cases cb : bitV b v = true
    · rw [if_neg (fun q => by rw [(bit_0 b v).mp q] at cb; cases cb), if_pos cb]
      have f1 : fr scrC iv (upr iv 39 (pu (iv 39) (11 + p) (nI v))) := fr_upr _ _ (by simp [scrC])
      have h1 := relC_scr h f1
      obtain ⟨r, r1, r2⟩ := c_force (X := X) (d := d + 3) (lv := lv) h1 ho
      obtain ⟨iv1, lv1, g1, g2, g3⟩ := c_react X d im lw tl _ lv (sc38 im lw tl) (by decide) (r2 _ (fun _ _ => rfl)).S (t := t) (p := p) ht hp
      have ep : eqS (pu (iv 39) (11 + p) (nI v)) (pu A.1.1 (11 + p) (nI v)) := fun j hj => by
        by_cases q : j = 11 + p
        · subst q; rw [pu_s, pu_s]
        · rw [pu_n _ _ _ q, pu_n _ _ _ q]; exact hf j hj q
      obtain ⟨a1, a2⟩ := aRe_lt A.1.1 (lawOf A.1) t p v
      rw [upr_self, reaV_eq ep _ _ ht hp, a2] at g1
      have e44 : iv1 44 = iv 44 := by rw [g2 44 (by decide) (by decide), upr_off _ _ _ (by decide)]
      have hcr := hc _ a1
      rw [c_set0 (sc38 im lw tl) (by omega), bV_some, sg170_59, r1, bR_some, sg170_74, g1, bI_some, sg170_79, c_within X (d + 4), bI_some, sg170_87, if_neg (by rw [inV_nI (by omega) (by decide)]; decide), if_pos (inb_nI a1 (by omega)), if_pos (inb_nI a1 (by omega)), if_pos (inb_nI a1 (by omega)), nI_clamp (by omega), upd2_self, e44, hcr.2, nI_add, nI_add]
      have mx_ : (if nI (max3 c) < nI (c (aRe A.1.1 (lawOf A.1) t p v) + 1) then nI (c (aRe A.1.1 (lawOf A.1) t p v) + 1) else nI (max3 c)) = nI (max3 (pu c (aRe A.1.1 (lawOf A.1) t p v) (c (aRe A.1.1 (lawOf A.1) t p v) + 1))) := by
        have m3 : max3 c ≤ v := by
          have q0 := (hc 0 (by omega)).1
          have q1 := (hc 1 (by omega)).1
          have q2 := (hc 2 (by omega)).1
          unfold max3; omega
        rw [max3_pu c a1]
        by_cases q : max3 c < c (aRe A.1.1 (lawOf A.1) t p v) + 1
        · rw [if_pos (nI_lt q (by omega)), Nat.max_eq_right (by omega)]
        · rw [if_neg (nI_nlt (by omega) (by omega)), Nat.max_eq_left (by omega)]
      rw [mx_]
      have f2 : fr scrC iv (upd2 iv1 44 (aRe A.1.1 (lawOf A.1) t p v) (nI (c (aRe A.1.1 (lawOf A.1) t p v) + 1))) := (f1.tr (g2.fr (by simp [scrC]) (by simp [scrC]))).tr (fr_upd _ _ _ (by simp [scrC]))
      obtain ⟨iv2, lv2, k1, k2, k3⟩ := ih (v + 1) (pu c (aRe A.1.1 (lawOf A.1) t p v) (c (aRe A.1.1 (lawOf A.1) t p v) + 1)) (some (.inl (nI (aRe A.1.1 (lawOf A.1) t p v)))) _ lv1 (by omega) (fun k hk => by
        rw [upd2_rw]
        by_cases q : k = aRe A.1.1 (lawOf A.1) t p v
        · subst q; rw [pu_s, pu_s]; exact ⟨by omega, rfl⟩
        · rw [pu_n _ _ _ q, pu_n _ _ _ q, e44]; exact ⟨by have := (hc k hk).1; omega, (hc k hk).2⟩) (relC_scr h f2) (fun j hj hn => by rw [upd2_off _ _ _ _ (by decide), g2 39 (by decide) (by decide), upr_self, pu_n _ _ _ hn]; exact hf j hj hn)
      exact ⟨iv2, lv2, k1, f2.tr k2, g3.tr k3⟩
    · rw [if_pos ((bit_0 b v).mpr (by simpa using cb)), if_neg cb, nI_add]
      exact ih (v + 1) c w6 iv lv (by omega) (fun k hk => ⟨by have := (hc k hk).1; omega, (hc k hk).2⟩) h hf
theorem c_alk (X : XE) (d : Nat) {im lw : List (Option Nat)} {tl : List XC} (iv : Nat → Nat → Int32) (lv : Nat → Nat → Int64) {A : St} (h : RelC A im lw tl iv) (ho : OKA A) {t p : Nat} (ht : t < 4) (hp : p < 6) (b : Int32) : ∃ iv' lv', call X xT (d + 6) 170 [.inr (.inr (some 0)), .inl (nI t), .inl (nI p), .inl b] (SS im lw tl, iv, lv) = some (some (.inl (alkV A.1.1 (lawOf A.1) b t p)), (SS im lw tl, iv', lv')) ∧ fr scrC iv iv' ∧ agL lv lv' := by
  have f1 : fr scrC iv (upd2 (upd2 (upd2 (upr iv 39 (va_cpy (iv 3) (iv 39) 0 0 59)) 44 0 (nI 0)) 44 1 (nI 0)) 44 2 (nI 0)) := (((fr_upr _ _ (by simp [scrC])).tr (fr_upd _ _ _ (by simp [scrC]))).tr (fr_upd _ _ _ (by simp [scrC]))).tr (fr_upd _ _ _ (by simp [scrC]))
  obtain ⟨iv', lv', k1, k2, k3⟩ := c_alk_loop X d ho ht hp b 10 0 (fun _ => 0) none _ lv (by omega) (fun k hk => by
    have : k = 0 ∨ k = 1 ∨ k = 2 := by omega
    refine ⟨Nat.le_refl _, ?_⟩
    rcases this with rfl | rfl | rfl <;> simp [upd2]) (relC_scr h f1) (fun j hj _ => by
    rw [upd2_off _ _ _ _ (by decide), upd2_off _ _ _ _ (by decide), upd2_off _ _ _ _ (by decide), upr_self]
    exact ((cpy_eq _ _).tr h.eq) j hj)
  refine ⟨iv', lv', ?_, f1.tr k2, k3⟩
  rw [tr170, c_copy X (d + 4), bV_some, sg170_14, c_fill X (d + 4), bV_some, sg170_22]
  exact k1
/-! the reference -/
theorem m_is (X : XE) (d : Nat) (im lw : List (Option Nat)) (tl : List XC) (iv : Nat → Nat → Int32) (lv : Nat → Nat → Int64) (x : Int32) (v : Nat) : call X xT (d + 1) 281 [.inl x, .inl (nI v)] (SS im lw tl, iv, lv) = some (some (.inl (b2i (bitV x v))), (SS im lw tl, iv, lv)) := by
  rw [tr281]
  unfold bitV
  by_cases c : (x >>> (nI v &&& 31)) &&& nI 1 = nI 1
  · rw [if_pos c, decide_eq_true c]; rfl
  · rw [if_neg c, decide_eq_false c]; rfl
theorem m_alk_loop (X : XE) (d : Nat) (im lw : List (Option Nat)) (tl : List XC) {l : Lw} {f : Sc} (hk : okS f) {t p : Nat} (ht : t < 4) (hp : p < 6) (b : Int32) : ∀ (m v : Nat) (c : Nat → Nat) (iv : Nat → Nat → Int32) (lv : Nat → Nat → Int64) (F : Sc), v + m = 10 → (∀ k, k < 3 → c k ≤ v ∧ iv 74 k = nI (c k)) → iv 46 20 = nI 0 → lawG (iv 48) l.1 l.2 → eqS F (fM (iv 48)) → (∀ j, j < 59 → j ≠ 11 + p → F j = f j) →
    ∃ iv' lv', run X (call X xT (d + 6)) false 1 xc297 37 [some (.inr (.inr (some 46))), some (.inl (nI t)), some (.inl (nI p)), some (.inl b), some (.inl (f (11 + p))), some (.inl (nI v))] [] (SS im lw tl, iv, lv) = some (some (.inl (nI (max3 (alkF f l t p b m v c)))), (SS im lw tl, iv', lv')) ∧ eqS f (fM (iv' 48)) ∧ rowS (iv 48) (iv' 48) ∧ frG [48, 74] iv iv' ∧ agN lv lv' := by
  intro m
  induction m with
  | zero =>
    intro v c iv lv F hv hc h20 hl he hF
    rw [sg297_37, if_pos (nI_le (by omega) (by omega)), nI_add, if_pos (ib5k (by omega)), nI_clamp (by omega), (hc 0 (by omega)).2, (hc 1 (by omega)).2, (hc 2 (by omega)).2, ← mx_t hp]
    have b0 := (hc 0 (by omega)).1
    have b1 := (hc 1 (by omega)).1
    have b2 := (hc 2 (by omega)).1
    refine ⟨upd2 iv 48 (mx (11 + p)) (f (11 + p)), lv, ?_, ?_, ?_, (fr_upd _ _ _ (by simp)).G, agN.rf⟩
    · simp only [alkF, max3]
      by_cases q : c 0 ≤ c 1
      · rw [if_pos (nI_le q (by omega)), Nat.max_eq_right q]
        by_cases q2 : c 1 ≤ c 2
        · rw [if_pos (nI_le q2 (by omega)), Nat.max_eq_right q2]
        · rw [if_neg (nI_ge (by omega) (by omega)), Nat.max_eq_left (by omega)]
      · rw [if_neg (nI_ge (by omega) (by omega)), Nat.max_eq_left (show c 1 ≤ c 0 by omega)]
        by_cases q2 : c 0 ≤ c 2
        · rw [if_pos (nI_le q2 (by omega)), Nat.max_eq_right q2]
        · rw [if_neg (nI_ge (by omega) (by omega)), Nat.max_eq_left (by omega)]
    · rw [upd2_rw]
      refine eqS.tr (fun j hj => ?_) (eqS_pu he (by omega) _)
      by_cases q : j = 11 + p
      · subst q; rw [pu_s]
      · rw [pu_n _ _ _ q, hF j hj q]
    · rw [upd2_rw]; exact rowS_pu _ (by omega) _
  | succ m ih =>
    intro v c iv lv F hv hc h20 hl he hF
    have he1 : eqS (pu f (11 + p) (nI v)) (fM ((upd2 iv 48 (mx (11 + p)) (nI v)) 48)) := by
      rw [upd2_rw]
      refine eqS.tr (fun j hj => ?_) (eqS_pu he (by omega) _)
      by_cases q : j = 11 + p
      · subst q; rw [pu_s, pu_s]
      · rw [pu_n _ _ _ q, pu_n _ _ _ q, hF j hj q]
    have hr1 : rowS (iv 48) ((upd2 iv 48 (mx (11 + p)) (nI v)) 48) := by rw [upd2_rw]; exact rowS_pu _ (by omega) _
    have ok1 : okS (pu f (11 + p) (nI v)) := hk.put (by rw [tp_t hp]; omega)
    obtain ⟨iv1, lv1, g1, g2, g3⟩ := m_would X d im lw tl (upd2 iv 48 (mx (11 + p)) (nI v)) lv (by rw [upd2_ne _ _ _ _ (by omega)]; exact h20) (hl.sc hr1) (ok1.eq he1) (t := t) (p := p) ht hp
    obtain ⟨a1, a2⟩ := aRe_lt f l t p v
    rw [← reaV_eq he1 _ _ ht hp, a2] at g1
    have r1 : iv1 48 = (upd2 iv 48 (mx (11 + p)) (nI v)) 48 := g2.row (by decide)
    have e74 : iv1 74 = iv 74 := by rw [g2.row (by decide), upd2_off _ _ _ _ (by decide)]
    rw [sg297_37, if_neg (nI_ge (show v < 10 by omega) (by omega)), nI_add, if_pos (ib5k (by omega)), nI_clamp (by omega), ← mx_t hp, g1, bI_some, sg297_65, if_pos (inb_nI a1 (by omega)), m_is X (d + 5), bI_some, sg297_73, nI_clamp (by omega), b2i_ite, if_pos (inb_nI a1 (by omega)), if_pos (inb_nI a1 (by omega)), e74, (hc _ a1).2, nI_add, nI_add, nI_add, Nat.add_zero]
    simp only [alkF]
    have f1 : ∀ x, frG [48, 74] iv (upd2 iv1 74 (aRe f l t p v) x) := fun x => (((fr_upd _ _ _ (by simp)).G).tr g2.G).tr ((fr_upd _ _ _ (by simp)).G)
    have hr2 : ∀ x, rowS (iv 48) ((upd2 iv1 74 (aRe f l t p v) x) 48) := fun x => by rw [upd2_off _ _ _ _ (by decide), r1]; exact hr1
    have go : ∀ (c2 : Nat → Nat) (x : Int32), (∀ k, k < 3 → c2 k ≤ v + 1 ∧ (upd2 iv1 74 (aRe f l t p v) x) 74 k = nI (c2 k)) → ∃ iv' lv', run X (call X xT (d + 6)) false 1 xc297 37 [some (.inr (.inr (some 46))), some (.inl (nI t)), some (.inl (nI p)), some (.inl b), some (.inl (f (11 + p))), some (.inl (nI (v + 1)))] [] (SS im lw tl, upd2 iv1 74 (aRe f l t p v) x, lv1) = some (some (.inl (nI (max3 (alkF f l t p b m (v + 1) c2)))), (SS im lw tl, iv', lv')) ∧ eqS f (fM (iv' 48)) ∧ rowS (iv 48) (iv' 48) ∧ frG [48, 74] iv iv' ∧ agN lv lv' := by
      intro c2 x hc2
      obtain ⟨iv2, lv2, k1, k2, k3, k4, k5⟩ := ih (v + 1) c2 (upd2 iv1 74 (aRe f l t p v) x) lv1 (pu f (11 + p) (nI v)) (by omega) hc2 (by rw [f1 x 46 20 (by simp) (by omega)]; exact h20) (hl.sc (hr2 x)) (by rw [upd2_off _ _ _ _ (by decide), r1]; exact he1) (fun j hj hn => pu_n _ _ _ hn)
      exact ⟨iv2, lv2, k1, k2, (hr2 x).tr k3, (f1 x).tr k4, g3.tr k5⟩
    by_cases cb : bitV b v = true
    · rw [if_pos cb, if_pos cb]
      refine go _ _ (fun k hk => ?_)
      rw [upd2_rw]
      by_cases q : k = aRe f l t p v
      · subst q; rw [pu_s, pu_s]; exact ⟨by have := (hc _ a1).1; omega, rfl⟩
      · rw [pu_n _ _ _ q, pu_n _ _ _ q, e74]; exact ⟨by have := (hc k hk).1; omega, (hc k hk).2⟩
    · rw [if_neg cb, if_neg cb]
      refine go _ _ (fun k hk => ?_)
      rw [upd2_rw]
      by_cases q : k = aRe f l t p v
      · subst q; rw [pu_s]; exact ⟨by have := (hc _ a1).1; omega, rfl⟩
      · rw [pu_n _ _ _ q, e74]; exact ⟨by have := (hc k hk).1; omega, (hc k hk).2⟩
theorem m_alk (X : XE) (d : Nat) (im lw : List (Option Nat)) (tl : List XC) (iv : Nat → Nat → Int32) (lv : Nat → Nat → Int64) {l : Lw} {f : Sc} (hk : okS f) {t p : Nat} (ht : t < 4) (hp : p < 6) (b : Int32) (h20 : iv 46 20 = nI 0) (hl : lawG (iv 48) l.1 l.2) (he : eqS f (fM (iv 48))) : ∃ iv' lv', call X xT (d + 7) 297 [.inr (.inr (some 46)), .inl (nI t), .inl (nI p), .inl b] (SS im lw tl, iv, lv) = some (some (.inl (alkV f l b t p)), (SS im lw tl, iv', lv')) ∧ eqS f (fM (iv' 48)) ∧ rowS (iv 48) (iv' 48) ∧ frG [48, 74] iv iv' ∧ agN lv lv' := by
  have et : iv 48 (14 + p) = f (11 + p) := by rw [he (11 + p) (by omega), fM, mx_t hp]
  have st : ∀ (iv : Nat → Nat → Int32) (j : Nat), j < 3 → run X (call X xT (d + 6)) false 1 xc297 14 [some (.inr (.inr (some 46))), some (.inl (nI t)), some (.inl (nI p)), some (.inl b), some (.inl (f (11 + p))), some (.inl (nI j))] [] (SS im lw tl, iv, lv) = run X (call X xT (d + 6)) false 1 xc297 14 [some (.inr (.inr (some 46))), some (.inl (nI t)), some (.inl (nI p)), some (.inl b), some (.inl (f (11 + p))), some (.inl (nI (j + 1)))] [] (SS im lw tl, upd2 iv 74 j (nI 0), lv) := by
    intro iv j hj
    rw [sg297_14, if_neg (nI_ge hj (by omega)), if_pos (inb_nI hj (by omega)), nI_clamp (by omega), nI_add]
  rw [tr297, nI_add, if_pos (ib5k (by omega)), nI_clamp (by omega), et, st _ 0 (by omega), st _ 1 (by omega), st _ 2 (by omega), sg297_14, if_pos (by decide)]
  have f1 : fr [48, 74] iv (upd2 (upd2 (upd2 iv 74 0 (nI 0)) 74 1 (nI 0)) 74 2 (nI 0)) := ((fr_upd _ _ _ (by simp)).tr (fr_upd _ _ _ (by simp))).tr (fr_upd _ _ _ (by simp))
  have r48 : (upd2 (upd2 (upd2 iv 74 0 (nI 0)) 74 1 (nI 0)) 74 2 (nI 0)) 48 = iv 48 := by rw [upd2_off _ _ _ _ (by decide), upd2_off _ _ _ _ (by decide), upd2_off _ _ _ _ (by decide)]
  obtain ⟨iv', lv', k1, k2, k3, k4, k5⟩ := m_alk_loop X d im lw tl (l := l) hk ht hp b 10 0 (fun _ => 0) (upd2 (upd2 (upd2 iv 74 0 (nI 0)) 74 1 (nI 0)) 74 2 (nI 0)) lv f (by omega) (fun k hk => by
    have : k = 0 ∨ k = 1 ∨ k = 2 := by omega
    refine ⟨Nat.le_refl _, ?_⟩
    rcases this with rfl | rfl | rfl <;> simp [upd2]) (by rw [f1 46 (by simp)]; exact h20) (by rw [r48]; exact hl) (by rw [r48]; exact he) (fun _ _ _ => rfl)
  rw [r48] at k3
  exact ⟨iv', lv', k1, k2, k3, f1.G.tr k4, k5⟩
theorem alk_le (f : Sc) (l : Lw) (t p : Nat) (b : Int32) : ∀ (m v : Nat) (c : Nat → Nat), (∀ k, c k ≤ v) → ∀ k, alkF f l t p b m v c k ≤ v + m := by
  intro m
  induction m with
  | zero => intro v c h k; exact h k
  | succ m ih =>
    intro v c h k
    simp only [alkF]
    have := ih (v + 1) (if bitV b v = true then pu c (aRe f l t p v) (c (aRe f l t p v) + 1) else c) (fun k => by
      split
      · simp only [pu]
        split
        · have := h (aRe f l t p v); omega
        · have := h k; omega
      · have := h k; omega) k
    omega
theorem alkV_le (f : Sc) (l : Lw) (b : Int32) (t p : Nat) : ∃ m, m ≤ 10 ∧ alkV f l b t p = nI m := by
  refine ⟨_, ?_, rfl⟩
  have h := alk_le f l t p b 10 0 (fun _ => 0) (fun _ => Nat.le_refl _)
  have h0 := h 0
  have h1 := h 1
  have h2 := h 2
  unfold max3
  omega
def askC (A : St) (p : Nat) : Option (Nat × Int32) := minR (fun t => alkV A.1.1 (lawOf A.1) (temV A.1.1 (lawOf A.1) A.1.2.1.1 A.1.2.1.2 p 10 0 (nI 0)) t p) (nT A.1.1) 0 none
def sp_ask (p w : Int32) (A : St) : Int32 × St := (if hasV (nI (nP A.1.1)) p = true then (if inV w (nI 1) = true then (if temV A.1.1 (lawOf A.1) A.1.2.1.1 A.1.2.1.2 p.toNatClampNeg 10 0 (nI 0) = 0 then -1 else if w = 0 then minI (askC A p.toNatClampNeg) else minW (askC A p.toNatClampNeg) (-1)) else -1) else -1, A)
theorem c_ask_loop (X : XE) (d : Nat) {im lw : List (Option Nat)} {tl : List XC} {A : St} (ho : OKA A) {p : Nat} (hp : p < 6) (w b : Int32) : ∀ (m q : Nat) (c : Option (Nat × Int32)) (w7 : Option XV) (iv : Nat → Nat → Int32) (lv : Nat → Nat → Int64), q + m = nT A.1.1 → (∀ b v, c = some (b, v) → b < 100) → RelC A im lw tl iv → ∃ iv' lv', run X (call X xT (d + 6)) false 1 xc169 45 [some (.inr (.inr (some 0))), some (.inl (nI p)), some (.inl w), some (.inl b), some (.inl (minI c)), some (.inl (minW c (-1))), some (.inl (nI q)), w7] [] (SS im lw tl, iv, lv) = some (some (.inl (if w = 0 then minI (minR (fun t => alkV A.1.1 (lawOf A.1) b t p) m q c) else minW (minR (fun t => alkV A.1.1 (lawOf A.1) b t p) m q c) (-1))), (SS im lw tl, iv', lv')) ∧ fr scrC iv iv' ∧ agL lv lv' := by
  intro m
  induction m with
  | zero =>
    intro q c w7 iv lv hq hc h
    obtain ⟨p0, p1, t0, t1, hk⟩ := cfacts h ho
    rw [sg169_45, c_tam0 (sc2 im lw tl), bI_some, sg169_57, t0, if_pos (nI_le (by omega) (by omega))]
    refine ⟨iv, lv, ?_, fr.rf, agL.rf⟩
    simp only [minR]
    split <;> rfl
  | succ m ih =>
    intro q c w7 iv lv hq hc h
    obtain ⟨p0, p1, t0, t1, hk⟩ := cfacts h ho
    obtain ⟨iv1, lv1, g1, g2, g3⟩ := c_alk X d iv lv h ho (t := q) (p := p) (by omega) hp b
    rw [sg169_45, c_tam0 (sc2 im lw tl), bI_some, sg169_57, t0, if_neg (nI_ge (show q < nT A.1.1 by omega) (by omega)), g1, bI_some, sg169_68, nI_add]
    have go : ∀ c2 : Option (Nat × Int32), c2 = minS (alkV A.1.1 (lawOf A.1) b q p) q c → (∀ b v, c2 = some (b, v) → b < 100) → ∃ iv' lv', run X (call X xT (d + 6)) false 1 xc169 45 [some (.inr (.inr (some 0))), some (.inl (nI p)), some (.inl w), some (.inl b), some (.inl (minI c2)), some (.inl (minW c2 (-1))), some (.inl (nI (q + 1))), some (.inl (alkV A.1.1 (lawOf A.1) b q p))] [] (SS im lw tl, iv1, lv1) = some (some (.inl (if w = 0 then minI (minR (fun t => alkV A.1.1 (lawOf A.1) b t p) (m + 1) q c) else minW (minR (fun t => alkV A.1.1 (lawOf A.1) b t p) (m + 1) q c) (-1))), (SS im lw tl, iv', lv')) ∧ fr scrC iv iv' ∧ agL lv lv' := by
      intro c2 e2 h2
      obtain ⟨iv2, lv2, k1, k2, k3⟩ := ih (q + 1) c2 (some (.inl (alkV A.1.1 (lawOf A.1) b q p))) iv1 lv1 (by omega) h2 (relC_scr h g2)
      refine ⟨iv2, lv2, ?_, g2.tr k2, g3.tr k3⟩
      rw [k1, minR, e2]
    cases c with
    | none =>
      rw [if_pos (show minI none = -1 from rfl)]
      exact go (some (q, alkV A.1.1 (lawOf A.1) b q p)) rfl (fun b v e => by injection e with e; injection e with e1 e2; omega)
    | some x =>
      obtain ⟨u, v⟩ := x
      have hb := hc u v rfl
      rw [if_neg (show ¬ minI (some (u, v)) = -1 from nI_m1 (by omega))]
      by_cases cc : alkV A.1.1 (lawOf A.1) b q p < v
      · rw [if_neg (show ¬ minW (some (u, v)) (-1) ≤ _ from fun e => by have e : v ≤ alkV A.1.1 (lawOf A.1) b q p := e; rw [fb_le] at e; rw [fb_lt] at cc; omega)]
        exact go (some (q, alkV A.1.1 (lawOf A.1) b q p)) (if_pos cc).symm (fun b v e => by injection e with e; injection e with e1 e2; omega)
      · rw [if_pos (show minW (some (u, v)) (-1) ≤ _ from (by show v ≤ _; rw [fb_le]; rw [fb_lt] at cc; omega))]
        exact go (some (u, v)) (if_neg cc).symm hc
theorem m_ask_loop (X : XE) (d : Nat) (im lw : List (Option Nat)) (tl : List XC) {l : Lw} {f : Sc} (hk : okS f) {p : Nat} (hp : p < 6) (w b : Int32) (hb : ¬ b = 0) {n : Nat} (hn : n ≤ 4) (hn1 : f 1 = nI n) : ∀ (m q : Nat) (c : Option (Nat × Int32)) (w7 : Option XV) (iv : Nat → Nat → Int32) (lv : Nat → Nat → Int64), q + m = n → (∀ b v, c = some (b, v) → b < 100) → iv 46 20 = nI 0 → lawG (iv 48) l.1 l.2 → eqS f (fM (iv 48)) → ∃ iv' lv', run X (call X xT (d + 7)) false 1 xc296 42 [some (.inr (.inr (some 46))), some (.inl (nI p)), some (.inl w), some (.inl b), some (.inl (minW c (nI 100000000))), some (.inl (minI c)), some (.inl (nI q)), w7] [] (SS im lw tl, iv, lv) = some (some (.inl (if w = 0 then minI (minR (fun t => alkV f l b t p) m q c) else minW (minR (fun t => alkV f l b t p) m q c) (-1))), (SS im lw tl, iv', lv')) ∧ eqS f (fM (iv' 48)) ∧ rowS (iv 48) (iv' 48) ∧ frG [48, 74] iv iv' ∧ agN lv lv' := by
  intro m
  induction m with
  | zero =>
    intro q c w7 iv lv hq hc h20 hl he
    have n1 : iv 48 1 = nI n := (he 1 (by omega)).symm.trans hn1
    rw [sg296_42, n1, if_pos (nI_le (by omega) (by omega))]
    refine ⟨iv, lv, ?_, he, rowS.rf, frG.rf, agN.rf⟩
    simp only [minR]
    cases c with
    | none =>
      rw [if_pos (show minI none = -1 from rfl)]
      split <;> rfl
    | some x =>
      obtain ⟨u, v⟩ := x
      have hb := hc u v rfl
      rw [if_neg (show ¬ minI (some (u, v)) = -1 from nI_m1 (by omega))]
      split <;> rfl
  | succ m ih =>
    intro q c w7 iv lv hq hc h20 hl he
    have n1 : iv 48 1 = nI n := (he 1 (by omega)).symm.trans hn1
    obtain ⟨iv1, lv1, g1, g2, g3, g4, g5⟩ := m_alk X d im lw tl iv lv (l := l) hk (t := q) (p := p) (by omega) hp b h20 hl he
    rw [sg296_42, n1, if_neg (nI_ge (show q < n by omega) (by omega)), if_neg hb, g1, bI_some, sg296_65, nI_add]
    have go : ∀ c2 : Option (Nat × Int32), c2 = minS (alkV f l b q p) q c → (∀ b v, c2 = some (b, v) → b < 100) → ∃ iv' lv', run X (call X xT (d + 7)) false 1 xc296 42 [some (.inr (.inr (some 46))), some (.inl (nI p)), some (.inl w), some (.inl b), some (.inl (minW c2 (nI 100000000))), some (.inl (minI c2)), some (.inl (nI (q + 1))), some (.inl (alkV f l b q p))] [] (SS im lw tl, iv1, lv1) = some (some (.inl (if w = 0 then minI (minR (fun t => alkV f l b t p) (m + 1) q c) else minW (minR (fun t => alkV f l b t p) (m + 1) q c) (-1))), (SS im lw tl, iv', lv')) ∧ eqS f (fM (iv' 48)) ∧ rowS (iv 48) (iv' 48) ∧ frG [48, 74] iv iv' ∧ agN lv lv' := by
      intro c2 e2 h2
      obtain ⟨iv2, lv2, k1, k2, k3, k4, k5⟩ := ih (q + 1) c2 (some (.inl (alkV f l b q p))) iv1 lv1 (by omega) h2 (by rw [g4 46 20 (by simp) (by omega)]; exact h20) (hl.sc g3) g2
      refine ⟨iv2, lv2, ?_, k2, g3.tr k3, g4.tr k4, g5.tr k5⟩
      rw [k1, minR, e2]
    cases c with
    | none =>
      obtain ⟨a, a1, a2⟩ := alkV_le f l b q p
      have nl : ¬ minW none (nI 100000000) ≤ alkV f l b q p := by
        show ¬ nI 100000000 ≤ _
        rw [a2]
        exact nI_ge (by omega) (by omega)
      rw [if_neg nl, if_neg nl]
      exact go (some (q, alkV f l b q p)) rfl (fun b v e => by injection e with e; injection e with e1 e2; omega)
    | some x =>
      obtain ⟨u, v⟩ := x
      by_cases cc : alkV f l b q p < v
      · have nl : ¬ minW (some (u, v)) (nI 100000000) ≤ alkV f l b q p := fun e => by have e : v ≤ alkV f l b q p := e; rw [fb_le] at e; rw [fb_lt] at cc; omega
        rw [if_neg nl, if_neg nl]
        exact go (some (q, alkV f l b q p)) (if_pos cc).symm (fun b v e => by injection e with e; injection e with e1 e2; omega)
      · have nl : minW (some (u, v)) (nI 100000000) ≤ alkV f l b q p := by show v ≤ _; rw [fb_le]; rw [fb_lt] at cc; omega
        rw [if_pos nl, if_pos nl]
        exact go (some (u, v)) (if_neg cc).symm hc
theorem S_ask (p w : Int32) : stepOK 169 296 [.inl p, .inl w] := by
  refine step_of (F := sp_ask p w) ?_ ?_ (fun _ h => h)
  · intro X hX d im lw tl iv lv A h ho
    show CR' im lw tl iv lv _ _
    obtain ⟨p0, p1, t0, t1, hk⟩ := cfacts h ho
    unfold sp_ask
    rw [tr169, c_hasP (sc2 im lw tl), bI_some, sg169_11, b2i_ite, p0]
    by_cases hp : hasV (nI (nP A.1.1)) p = true
    · rw [if_pos hp, if_pos hp, c_within X (d + 38), bI_some, sg169_19, b2i_ite]
      by_cases hw : inV w (nI 1) = true
      · rw [if_pos hw, if_pos hw]
        obtain ⟨a, ha, rfl⟩ := hasV_of (by omega) hp
        rw [nI_clamp (show a < 2 ^ 31 by omega)]
        obtain ⟨iv1, lv1, g1, g2, g3⟩ := c_tempers X (d + 32) iv lv h ho (p := a) (by omega)
        rw [g1, bI_some, sg169_29]
        by_cases hb : temV A.1.1 (lawOf A.1) A.1.2.1.1 A.1.2.1.2 a 10 0 (nI 0) = 0
        · rw [if_pos hb, if_pos hb]
          exact cq3 h g2 g3 rfl
        · rw [if_neg hb, if_neg hb]
          obtain ⟨iv2, lv2, k1, k2, k3⟩ := c_ask_loop X (d + 33) ho (p := a) (by omega) w (temV A.1.1 (lawOf A.1) A.1.2.1.1 A.1.2.1.2 a 10 0 (nI 0)) (nT A.1.1) 0 none none iv1 lv1 (by omega) (fun _ _ e => by cases e) (relC_scr h g2)
          exact cq3 h (g2.tr k2) (g3.tr k3) k1
      · rw [if_neg hw, if_neg hw]
        exact cq h rfl
    · rw [if_neg hp, if_neg hp]
      exact cq h rfl
  · intro X d im lw tl iv lv A h ho
    show MR' im lw tl iv _ _
    have h0 := h.thr (nI 0)
    obtain ⟨p0, p1, t0, t1, hk, he, hk2, h20⟩ := mfacts h0 ho
    unfold sp_ask
    rw [tr296, m_isP X (d + 37) im lw tl _ lv p1 p0, bI_some, sg296_10, b2i_ite]
    by_cases hp : hasV (nI (nP A.1.1)) p = true
    · rw [if_pos hp, if_pos hp, m_in X (d + 38), bI_some, sg296_20, b2i_ite, in_inV w (top := 1) (by decide)]
      by_cases hw : inV w (nI 1) = true
      · rw [if_pos hw, if_pos hw]
        obtain ⟨a, ha, rfl⟩ := hasV_of (by omega) hp
        rw [nI_clamp (show a < 2 ^ 31 by omega)]
        obtain ⟨iv1, lv1, g1, g2, g3, g4, g5⟩ := m_tempers X (d + 32) im lw tl _ lv h0 ho (p := a) (by omega)
        rw [g1, bI_some, sg296_30]
        have fin : ∀ {iv' : Nat → Nat → Int32} {lv' : Nat → Nat → Int64} {r : Option XR} {v : Int32}, eqS A.1.1 (fM (iv' 48)) → rowS ((upd2 iv 46 0 (nI 0)) 48) (iv' 48) → frG [48, 74] (upd2 iv 46 0 (nI 0)) iv' → agN lv lv' → r = some (some (.inl v), (SS im lw tl, iv', lv')) → MR' im lw tl iv r (v, A) := by
          intro iv' lv' r v q1 q2 q3 q4 q5
          obtain ⟨x, y, c1, c2, c3⟩ := mq3 h0 q1 q2 (fun a k q => q3 a k (by rcases q with q | ⟨q, r⟩ <;> simp at * <;> omega) (by rcases q with q | ⟨q, r⟩ <;> simp at * <;> omega)) q4 (q3.out (by intro x hx; simp at hx; omega)) q5
          exact ⟨x, y, c1, c2, (out0 iv).tr c3⟩
        have g4' := g4.mo (L' := [48, 74]) (by intro x hx; simp at hx; simp [hx])
        by_cases hb : temV A.1.1 (lawOf A.1) A.1.2.1.1 A.1.2.1.2 a 10 0 (nI 0) = 0
        · rw [if_pos hb]
          refine fin g2 g3 g4' g5 ?_
          rw [sg296_42]
          have n1 : iv1 48 1 = nI (nT A.1.1) := (g2 1 (by omega)).symm.trans hk.nt.1
          by_cases c : (iv1 48 1) ≤ nI 0
          · rw [if_pos c, if_pos rfl]
          · rw [if_neg c, if_pos hb, if_pos rfl]
        · rw [if_neg hb]
          obtain ⟨iv2, lv2, k1, k2, k3, k4, k5⟩ := m_ask_loop X (d + 32) im lw tl (l := lawOf A.1) hk (p := a) (by omega) w _ hb t1 hk.nt.1 (nT A.1.1) 0 none none iv1 lv1 (by omega) (fun _ _ e => by cases e) (by rw [g4 46 20 (by simp) (by omega)]; exact h20) ((h0.lawG ho).sc g3) g2
          exact fin k2 (g3.tr k3) (g4'.tr k4) (g5.tr k5) k1
      · rw [if_neg hw, if_neg hw]
        exact mq h rfl
    · rw [if_neg hp, if_neg hp]
      exact mq h rfl
