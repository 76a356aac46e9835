/-! cubs: the class -/
theorem dayP_eq {t p : Nat} (ht : t < 4) (hp : p < 6) {f g : Sc} (h : eqS f g) (b : Bool) : eqS (dayP t p f b) (dayP t p g b) := by
  have h1 : eqS (if b = true then eatF f t p else f) (if b = true then eatF g t p else g) := by
    cases b
    · exact h
    · exact eatF_eq h ht hp
  intro j hj
  unfold dayP
  rw [h1 (5 + p) (by omega)]
  exact h1.put _ _ j hj
theorem cubB_eq {t p : Nat} {b b' : Nat → Bool} : ∀ (k d : Nat) (f : Sc), (∀ i, d ≤ i → i < d + k → b i = b' i) → cubB t p b k d f = cubB t p b' k d f := by
  intro k
  induction k with
  | zero => intro d f _; rfl
  | succ k ih => intro d f h; simp only [cubB]; rw [h d (by omega) (by omega), ih (d + 1) _ (fun i h1 h2 => h i (by omega) (by omega))]
def latV (A : St) (t days p x : Nat) : Bool := loyV (cubB t p (bitV (nI x)) days 0 A.1.1) (lawOf A.1).1 (lawOf A.1).2 t p
theorem c_later_loop (X : XE) (d : Nat) {im lw : List (Option Nat)} {tl : List XC} {A : St} (ho : OKA A) {t p days x : Nat} (ht : t < 4) (hp : p < 6) (hd : days ≤ 4) : ∀ (k q : Nat) (g : Sc) (iv : Nat → Nat → Int32) (lv : Nat → Nat → Int64), q + k = days → RelC A im lw tl iv → eqS (iv 23) g → ∃ iv' lv', run X (call X xT (d + 5)) false 4 xc178 14 [some (.inr (.inr (some 21))), some (.inr (.inr (some 1))), some (.inl (nI t)), some (.inl (nI p)), some (.inl (nI days)), some (.inl (nI x)), some (.inl (nI q))] [] (SS im lw tl, iv, lv) = some (some (.inl (b2i (loyV (cubB t p (bitV (nI x)) k q g) (lawOf A.1).1 (lawOf A.1).2 t p))), (SS im lw tl, iv', lv')) ∧ fr [18, 20, 23] iv iv' ∧ agL lv lv' := by
  intro k
  induction k with
  | zero =>
    intro q g iv lv hq h he
    obtain ⟨r, r1, r2⟩ := c_force (X := X) (d := d + 3) (lv := lv) h ho
    obtain ⟨iv1, lv1, g1, g2, g3⟩ := c_loyal X d im lw tl iv lv (sc22 im lw tl) (by decide) (r2 iv (fun _ _ => rfl)).S (t := t) (p := p) ht hp
    rw [loyV_eq he _ _ ht hp] at g1
    rw [sg178_14, if_pos (nI_le (by omega) (by omega)), objR_ok (show (SS im lw tl)[1]? = some (9, 6, [some 2, some 4, some 6, some 7, none, none]) from rfl) rfl, r1, bR_some, sg178_70, g1, bI_some, sg178_75, if_pos (is01_b _)]
    exact ⟨iv1, lv1, rfl, (agC_f g2).mo (by simp), g3⟩
  | succ k ih =>
    intro q g iv lv hq h he
    rw [sg178_14, if_neg (nI_ge (by omega) (by omega))]
    have stp : ∀ iv1, fr [18, 20, 23] iv iv1 → eqS (iv1 23) (if bitV (nI x) q = true then eatF g t p else g) → ∃ iv' lv', run X (call X xT (d + 5)) false 4 xc178 40 [some (.inr (.inr (some 21))), some (.inr (.inr (some 1))), some (.inl (nI t)), some (.inl (nI p)), some (.inl (nI days)), some (.inl (nI x)), some (.inl (nI q))] [] (SS im lw tl, iv1, lv) = some (some (.inl (b2i (loyV (cubB t p (bitV (nI x)) (k + 1) q g) (lawOf A.1).1 (lawOf A.1).2 t p))), (SS im lw tl, iv', lv')) ∧ fr [18, 20, 23] iv iv' ∧ agL lv lv' := by
      intro iv1 f1 e1
      have cc := c_change (X := X) (d := d + 3) (S := SS im lw tl) (iv := iv1) (lv := lv) (sc22 im lw tl) (x := 5) (y := p) (by omega) (nI 1) (nI 9)
      rw [sg178_40, cc, bV_some, sg178_52, nI_add]
      have f2 : fr [18, 20, 23] iv (upr iv1 23 (pu (iv1 23) (5 + p) (near (nI 9) (iv1 23 (5 + p) + nI 1)))) := f1.tr (fr_upr _ _ (by simp))
      obtain ⟨iv2, lv2, b1, b2, b3⟩ := ih (q + 1) (dayP t p g (bitV (nI x) q)) (upr iv1 23 (pu (iv1 23) (5 + p) (near (nI 9) (iv1 23 (5 + p) + nI 1)))) lv (by omega) (h.fr (fun a ha => f2 a (by simp [ncC] at ha; simp; omega)) (fun a ha => f2 a (by simp; omega))) (by
        rw [upr_self]
        unfold dayP
        rw [← e1 (5 + p) (by omega)]
        exact e1.put _ _)
      exact ⟨iv2, lv2, b1, f2.tr b2, b3⟩
    by_cases c : bitV (nI x) q = true
    · rw [if_pos c] at stp
      rw [if_neg (fun e => by rw [(bit_0 _ _).mp e] at c; cases c), c_eat (d := d + 2) (sc22 im lw tl) ht hp, bV_some]
      exact stp _ (fr_upr _ _ (by simp)) (by rw [upr_self]; exact eatF_eq he ht hp)
    · rw [if_neg c] at stp
      rw [if_pos ((bit_0 _ _).mpr (Bool.eq_false_iff.mpr c))]
      exact stp iv (fun _ _ => rfl) he
theorem c_later (X : XE) (d : Nat) {im lw : List (Option Nat)} {tl : List XC} {A : St} (ho : OKA A) {t p days x : Nat} (ht : t < 4) (hp : p < 6) (hd : days ≤ 4) (iv : Nat → Nat → Int32) (lv : Nat → Nat → Int64) (h : RelC A im lw tl iv) : ∃ iv' lv', call X xT (d + 6) 178 [.inr (.inr (some 21)), .inr (.inr (some 1)), .inl (nI t), .inl (nI p), .inl (nI days), .inl (nI x)] (SS im lw tl, iv, lv) = some (some (.inl (b2i (latV A t days p x))), (SS im lw tl, iv', lv')) ∧ fr [18, 20, 23] iv iv' ∧ agL lv lv' := by
  have e : call X xT (d + 6) 178 [.inr (.inr (some 21)), .inr (.inr (some 1)), .inl (nI t), .inl (nI p), .inl (nI days), .inl (nI x)] (SS im lw tl, iv, lv) = run X (call X xT (d + 5)) false 4 xc178 14 [some (.inr (.inr (some 21))), some (.inr (.inr (some 1))), some (.inl (nI t)), some (.inl (nI p)), some (.inl (nI days)), some (.inl (nI x)), some (.inl (nI 0))] [] (SS im lw tl, upr iv 23 (va_cpy (iv 3) (iv 23) 0 0 59), lv) := by
    rw [tr178, obj_ok (show (SS im lw tl)[1]? = some (9, 6, [some 2, some 4, some 6, some 7, none, none]) from rfl) rfl (by show 0 < 6; omega)]
    show bV (call X xT (d + 5) 109 [.inr (.inr (some 22)), .inr (.inr (some 2))] (SS im lw tl, iv, lv)) _ = _
    rw [c_sccopy (d := d + 4) iv lv (show (SS im lw tl)[22]? = some (7, 1, [some 23]) from rfl) (show (SS im lw tl)[2]? = some (7, 1, [some 3]) from rfl) rfl rfl, bV_some, sg178_11]
  have f1 : fr [18, 20, 23] iv (upr iv 23 (va_cpy (iv 3) (iv 23) 0 0 59)) := fr_upr _ _ (by simp)
  obtain ⟨iv2, lv2, b1, b2, b3⟩ := c_later_loop X d ho ht hp hd (x := x) days 0 A.1.1 (upr iv 23 (va_cpy (iv 3) (iv 23) 0 0 59)) lv (by omega) (h.fr (fun a ha => f1 a (by simp [ncC] at ha; simp; omega)) (fun a ha => f1 a (by simp; omega))) (fun j hj => by
    rw [upr_self, pk_cpy_in (by omega) (by omega), show 0 + (j - 0) = j by omega]; exact h.eq j hj)
  rw [e]
  exact ⟨iv2, lv2, b1, f1.tr b2, b3⟩
