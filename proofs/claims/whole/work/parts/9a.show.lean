/-! calls: show; the class asks each temper once -/
def turV (f : Sc) (l : Lw) (t p v : Nat) : Int32 := if barV (pu f (11 + p) (nI v)) l.1 l.2 t p = true then nI 0 else reaV (pu f (11 + p) (nI v)) l.1 l.2 t p
theorem c_turn_loop (X : XE) (d : Nat) {im lw : List (Option Nat)} {tl : List XC} {A : St} {r : Option Nat} {t p : Nat} (ht : t < 4) (hp : p < 6) : ∀ (k v : Nat) (iv : Nat → Nat → Int32) (lv : Nat → Nat → Int64) (w6 : Option XV), v + k = 10 → (∀ iv', (∀ a, 79 ≤ a → iv' a = iv a) → lawT (SS im lw tl) iv' r (lawOf A.1).1 (lawOf A.1).2) → (∀ j, j < 59 → j ≠ 11 + p → iv 23 j = A.1.1 j) → ∃ iv' lv', run X (call X xT (d + 5)) false 0 xc145 20 [some (.inr (.inr (some 21))), some (.inr (.inr (some 1))), some (.inl (nI t)), some (.inl (nI p)), some (.inr (.inr r)), some (.inl (nI v)), w6] [] (SS im lw tl, iv, lv) = some (none, (SS im lw tl, iv', lv')) ∧ fr [18, 20, 23, 25] iv iv' ∧ agL lv lv' ∧ ∀ i, iv' 25 i = if p * 10 + v ≤ i ∧ i < p * 10 + 10 then turV A.1.1 (lawOf A.1) t p (i - p * 10) else iv 25 i := by
  intro k
  induction k with
  | zero =>
    intro v iv lv w6 hv hl he
    rw [sg145_20, if_pos (nI_lt (by omega) (by omega))]
    exact ⟨iv, lv, rfl, fun _ _ => rfl, agL.rf, fun i => by rw [if_neg (by omega)]⟩
  | succ k ih =>
    intro v iv lv w6 hv hl he
    rw [sg145_20, if_neg (nI_nlt (by omega) (by omega)), c_set0 (sc22 im lw tl) (x := 11) (y := p) (by omega), bV_some, sg145_39]
    have s1 : fr [18, 20, 23, 25] iv (upr iv 23 (pu (iv 23) (11 + p) (nI v))) := fr_upr _ _ (by simp)
    have eq1 : eqS (pu (iv 23) (11 + p) (nI v)) (pu A.1.1 (11 + p) (nI v)) := fun j hj => by
      by_cases e : j = 11 + p
      · subst e; rw [pu_s, pu_s]
      · rw [pu_n _ _ _ e, pu_n _ _ _ e]; exact he j hj e
    have hl1 : ∀ iv2, fr [18, 20, 23, 25] iv iv2 → ∀ iv', (∀ a, 79 ≤ a → iv' a = iv2 a) → lawT (SS im lw tl) iv' r (lawOf A.1).1 (lawOf A.1).2 := fun iv2 hf iv' h' => hl iv' (fun a ha => by rw [h' a ha, hf a (by simp; omega)])
    obtain ⟨iv1, lv1, a1, a2, a3⟩ := c_barred X (d + 1) im lw tl (upr iv 23 (pu (iv 23) (11 + p) (nI v))) lv (sc22 im lw tl) (by decide) (hl1 _ s1 _ (fun _ _ => rfl)).S (t := t) (p := p) ht hp
    rw [upr_self, barV_eq eq1 _ _ ht hp] at a1
    rw [a1, bI_some, sg145_54, b2i_ite]
    have f1 : fr [18, 20, 23, 25] iv iv1 := s1.tr ((agC_f a2).mo (by simp))
    have e23 : iv1 23 = pu (iv 23) (11 + p) (nI v) := by rw [agC_f a2 23 (by decide), upr_self]
    have e25 : iv1 25 = iv 25 := by rw [agC_f a2 25 (by decide), upr_off _ _ _ (by decide)]
    have fin : ∀ (u : Int32) (w : Int32) (iv2 : Nat → Nat → Int32) (lv2 : Nat → Nat → Int64), u = turV A.1.1 (lawOf A.1) t p v → fr [18, 20, 23, 25] iv iv2 → agL lv lv2 → iv2 23 = pu (iv 23) (11 + p) (nI v) → iv2 25 = iv 25 → ∃ iv' lv', run X (call X xT (d + 5)) false 0 xc145 91 [some (.inr (.inr (some 21))), some (.inr (.inr (some 1))), some (.inl (nI t)), some (.inl (nI p)), some (.inr (.inr r)), some (.inl (nI v)), some (.inl w)] [.inl u, .inl (nI (p * 10 + v)), .inr (.inr (some 25))] (SS im lw tl, iv2, lv2) = some (none, (SS im lw tl, iv', lv')) ∧ fr [18, 20, 23, 25] iv iv' ∧ agL lv lv' ∧ ∀ i, iv' 25 i = if p * 10 + v ≤ i ∧ i < p * 10 + 10 then turV A.1.1 (lawOf A.1) t p (i - p * 10) else iv 25 i := by
      intro u w iv2 lv2 hu f2 g2 h23 h25
      have f3 : fr [18, 20, 23, 25] iv (upd2 iv2 25 (p * 10 + v) u) := f2.tr (fr_upd _ _ _ (by simp))
      obtain ⟨iv3, lv3, b1, b2, b3, b4⟩ := ih (v + 1) (upd2 iv2 25 (p * 10 + v) u) lv2 (some (.inl w)) (by omega) (hl1 _ f3) (fun j hj hne => by rw [upd2_off _ _ _ _ (by decide), h23, pu_n _ _ _ hne]; exact he j hj hne)
      rw [sg145_91, if_pos (inb_nI (by omega) (by omega)), nI_clamp (by omega), nI_add]
      refine ⟨iv3, lv3, b1, f3.tr b2, g2.tr b3, fun i => ?_⟩
      rw [b4 i]
      by_cases e : i = p * 10 + v
      · subst e; rw [if_neg (by omega), if_pos (by omega), upd2_self, hu, show p * 10 + v - p * 10 = v by omega]
      · rw [upd2_ne _ _ _ _ (fun z => e z.2), h25]
        by_cases c : p * 10 + v ≤ i ∧ i < p * 10 + 10
        · rw [if_pos c, if_pos (by omega)]
        · rw [if_neg c, if_neg (by omega)]
    rw [pk_mul, nI_add]
    by_cases cb : barV (pu A.1.1 (11 + p) (nI v)) (lawOf A.1).1 (lawOf A.1).2 t p = true
    · rw [if_pos cb]
      exact fin (nI 0) _ iv1 lv1 (by unfold turV; rw [if_pos cb]) f1 a3 e23 e25
    · rw [if_neg cb]
      obtain ⟨iv2, lv2, b1, b2, b3⟩ := c_react X d im lw tl iv1 lv1 (sc22 im lw tl) (by decide) (hl1 _ f1 _ (fun _ _ => rfl)).S (t := t) (p := p) ht hp
      rw [e23, reaV_eq eq1 _ _ ht hp] at b1
      rw [b1, bI_some]
      exact fin _ _ iv2 lv2 (by unfold turV; rw [if_neg cb]) (f1.tr ((agC_f b2).mo (by simp))) (a3.tr b3) (by rw [agC_f b2 23 (by decide), e23]) (by rw [agC_f b2 25 (by decide), e25])
theorem c_turns (X : XE) (d : Nat) {im lw : List (Option Nat)} {tl : List XC} {A : St} (ho : OKA A) {t p : Nat} (ht : t < 4) (hp : p < 6) (iv : Nat → Nat → Int32) (lv : Nat → Nat → Int64) (h : RelC A im lw tl iv) : ∃ iv' lv', call X xT (d + 6) 145 [.inr (.inr (some 21)), .inr (.inr (some 1)), .inl (nI t), .inl (nI p)] (SS im lw tl, iv, lv) = some (none, (SS im lw tl, iv', lv')) ∧ fr [18, 20, 23, 25] iv iv' ∧ agL lv lv' ∧ ∀ i, iv' 25 i = if p * 10 ≤ i ∧ i < p * 10 + 10 then turV A.1.1 (lawOf A.1) t p (i - p * 10) else iv 25 i := by
  obtain ⟨r, r1, r2⟩ := c_force (X := X) (d := d + 3) (lv := lv) h ho
  have f1 : fr [18, 20, 23, 25] iv (upr iv 23 (va_cpy (iv 3) (iv 23) 0 0 59)) := fr_upr _ _ (by simp)
  obtain ⟨iv2, lv2, b1, b2, b3, b4⟩ := c_turn_loop X d (im := im) (lw := lw) (tl := tl) (A := A) (r := r) ht hp 10 0 (upr iv 23 (va_cpy (iv 3) (iv 23) 0 0 59)) lv none (by omega) (fun iv' h' => r2 iv' (fun a ha => by rw [h' a ha, f1 a (by simp; omega)])) (fun j hj _ => by
    rw [upr_self, pk_cpy_in (by omega) (by omega), show 0 + (j - 0) = j by omega]; exact h.eq j hj)
  have e : call X xT (d + 6) 145 [.inr (.inr (some 21)), .inr (.inr (some 1)), .inl (nI t), .inl (nI p)] (SS im lw tl, iv, lv) = run X (call X xT (d + 5)) false 0 xc145 20 [some (.inr (.inr (some 21))), some (.inr (.inr (some 1))), some (.inl (nI t)), some (.inl (nI p)), some (.inr (.inr r)), some (.inl (nI 0)), none] [] (SS im lw tl, upr iv 23 (va_cpy (iv 3) (iv 23) 0 0 59), lv) := by
    rw [tr145, objR_ok (show (SS im lw tl)[1]? = some (9, 6, [some 2, some 4, some 6, some 7, none, none]) from rfl) rfl, r1, bR_some, sg145_4, obj_ok (show (SS im lw tl)[1]? = some (9, 6, [some 2, some 4, some 6, some 7, none, none]) from rfl) rfl (by show 0 < 6; omega)]
    show bV (call X xT (d + 5) 109 [.inr (.inr (some 22)), .inr (.inr (some 2))] (SS im lw tl, iv, lv)) _ = _
    rw [c_sccopy (d := d + 4) iv lv (show (SS im lw tl)[22]? = some (7, 1, [some 23]) from rfl) (show (SS im lw tl)[2]? = some (7, 1, [some 3]) from rfl) rfl rfl, bV_some, sg145_17]
  rw [e]
  exact ⟨iv2, lv2, b1, f1.tr b2, b3, fun i => by rw [b4 i, Nat.add_zero, upr_off _ _ _ (by decide)]⟩
theorem c_turnAll (X : XE) (d : Nat) {im lw : List (Option Nat)} {tl : List XC} {A : St} (ho : OKA A) {t : Nat} (ht : t < 4) (told : Int32) : ∀ (k p : Nat) (iv : Nat → Nat → Int32) (lv : Nat → Nat → Int64), p + k = 6 → RelC A im lw tl iv → (∀ q, q < p → bitV told q = true → ∀ v, v < 10 → iv 25 (q * 10 + v) = turV A.1.1 (lawOf A.1) t q v) → ∃ iv' lv', run X (call X xT (d + 6)) false 1 xc144 3 [some (.inr (.inr (some 21))), some (.inr (.inr (some 1))), some (.inl (nI t)), some (.inl told), some (.inl (nI p))] [] (SS im lw tl, iv, lv) = run X (call X xT (d + 6)) false 1 xc144 3 [some (.inr (.inr (some 21))), some (.inr (.inr (some 1))), some (.inl (nI t)), some (.inl told), some (.inl (nI 6))] [] (SS im lw tl, iv', lv') ∧ fr [18, 20, 23, 25] iv iv' ∧ agL lv lv' ∧ ∀ q, q < 6 → bitV told q = true → ∀ v, v < 10 → iv' 25 (q * 10 + v) = turV A.1.1 (lawOf A.1) t q v := by
  intro k
  induction k with
  | zero =>
    intro p iv lv hp h hq
    have : p = 6 := by omega
    subst this
    exact ⟨iv, lv, rfl, fun _ _ => rfl, agL.rf, hq⟩
  | succ k ih =>
    intro p iv lv hp h hq
    rw [sg144_3, if_neg (nI_ge (by omega) (by omega))]
    by_cases c : bitV told p = true
    · rw [if_neg (fun e => by rw [(bit_0 _ _).mp e] at c; cases c)]
      obtain ⟨iv1, lv1, a1, a2, a3, a4⟩ := c_turns X d ho ht (show p < 6 by omega) iv lv h
      rw [a1, bV_some, sg144_27, nI_add]
      obtain ⟨iv2, lv2, b1, b2, b3, b4⟩ := ih (p + 1) iv1 lv1 (by omega) (h.fr (fun a ha => a2 a (by simp [ncC] at ha; simp; omega)) (fun a ha => a2 a (by simp; omega))) (fun q h1 h2 v hv => by
        rw [a4]
        by_cases e : q = p
        · subst e; rw [if_pos (by omega), show q * 10 + v - q * 10 = v by omega]
        · rw [if_neg (by omega)]; exact hq q (by omega) h2 v hv)
      exact ⟨iv2, lv2, b1, a2.tr b2, a3.tr b3, b4⟩
    · rw [if_pos ((bit_0 _ _).mpr (Bool.eq_false_iff.mpr c)), sg144_27, nI_add]
      exact ih (p + 1) iv lv (by omega) h (fun q h1 h2 v hv => by
        by_cases e : q = p
        · subst e; exact absurd h2 c
        · exact hq q (by omega) h2 v hv)
