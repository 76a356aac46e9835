/-! cubs: the class's masks and its search -/
theorem sh_p : ∀ k, k ≤ 4 → nI 1 <<< (nI k &&& 31) = nI (2 ^ k) := by decide +kernel
theorem p2_le {days : Nat} (hd : days ≤ 4) : 2 ^ days ≤ 16 := by
  have h : days = 0 ∨ days = 1 ∨ days = 2 ∨ days = 3 ∨ days = 4 := by omega
  rcases h with e | e | e | e | e <;> subst e <;> decide
theorem c_cm_in (X : XE) (d : Nat) {im lw : List (Option Nat)} {tl : List XC} {A : St} (ho : OKA A) {t q days : Nat} (ht : t < 4) (hq : q < 6) (hd : days ≤ 4) : ∀ (k x : Nat) (iv : Nat → Nat → Int32) (lv : Nat → Nat → Int64), x + k = 2 ^ days → RelC A im lw tl iv → (∀ s, s < 16 → bitV (iv 28 q) s = (decide (s < x) && latV A t days q s)) → ∃ iv' lv' w5, run X (call X xT (d + 6)) false 1 xc177 49 [some (.inr (.inr (some 21))), some (.inr (.inr (some 1))), some (.inl (nI t)), some (.inl (nI days)), some (.inl (nI q)), some (.inl (nI x))] [] (SS im lw tl, iv, lv) = run X (call X xT (d + 6)) false 1 xc177 22 [some (.inr (.inr (some 21))), some (.inr (.inr (some 1))), some (.inl (nI t)), some (.inl (nI days)), some (.inl (nI (q + 1))), w5] [] (SS im lw tl, iv', lv') ∧ fr [18, 20, 23, 28] iv iv' ∧ agL lv lv' ∧ (∀ s, s < 2 ^ days → bitV (iv' 28 q) s = latV A t days q s) ∧ ∀ i, i ≠ q → iv' 28 i = iv 28 i := by
  have p16 := p2_le hd
  intro k
  induction k with
  | zero =>
    intro x iv lv hx h hb
    rw [sg177_49, sh_p days hd, if_pos (nI_le (by omega) (by omega)), nI_add]
    exact ⟨iv, lv, _, rfl, fun _ _ => rfl, agL.rf, fun s hs => by rw [hb s (by omega), decide_eq_true (by omega), Bool.true_and], fun _ _ => rfl⟩
  | succ k ih =>
    intro x iv lv hx h hb
    obtain ⟨iv1, lv1, a1, a2, a3⟩ := c_later X d ho ht hq hd (x := x) iv lv h
    have fr' : ∀ iv2, fr [18, 20, 23, 28] iv iv2 → RelC A im lw tl iv2 := fun iv2 f2 => h.fr (fun a ha => f2 a (by simp [ncC] at ha; simp; omega)) (fun a ha => f2 a (by simp; omega))
    have f1 : fr [18, 20, 23, 28] iv iv1 := a2.mo (by simp)
    have q28 : iv1 28 = iv 28 := a2 28 (by decide)
    rw [sg177_49, sh_p days hd, if_neg (nI_ge (by omega) (by omega)), a1, bI_some, sg177_68, b2i_ite, nI_add]
    by_cases c : latV A t days q x = true
    · rw [if_pos c, if_pos (inb_nI (by omega) (by omega)), if_pos (inb_nI (by omega) (by omega)), nI_clamp (by omega), q28]
      have f2 : fr [18, 20, 23, 28] iv (upd2 iv1 28 q (iv 28 q ||| (nI 1 <<< (nI x &&& 31)))) := f1.tr (fr_upd _ _ _ (by simp))
      obtain ⟨iv2, lv2, w, b1, b2, b3, b4, b5⟩ := ih (x + 1) (upd2 iv1 28 q (iv 28 q ||| (nI 1 <<< (nI x &&& 31)))) lv1 (by omega) (fr' _ f2) (fun s hs => by
        rw [upd2_self, bit_or _ hs (by omega), hb s hs]
        by_cases e : s = x
        · subst e; rw [decide_eq_true rfl, Bool.or_true, decide_eq_true (by omega), c]; rfl
        · rw [decide_eq_false e, Bool.or_false]
          congr 1; rw [decide_eq_decide]; omega)
      exact ⟨iv2, lv2, w, b1, f2.tr b2, a3.tr b3, b4, fun i hi => by rw [b5 i hi, upd2_ne _ _ _ _ (fun z => hi z.2), q28]⟩
    · rw [if_neg c]
      obtain ⟨iv2, lv2, w, b1, b2, b3, b4, b5⟩ := ih (x + 1) iv1 lv1 (by omega) (fr' _ f1) (fun s hs => by
        rw [q28, hb s hs]
        by_cases e : s = x
        · subst e; rw [decide_eq_false (by omega), decide_eq_true (by omega), Bool.eq_false_iff.mpr c]; rfl
        · congr 1; rw [decide_eq_decide]; omega)
      exact ⟨iv2, lv2, w, b1, f1.tr b2, a3.tr b3, b4, fun i hi => by rw [b5 i hi, q28]⟩
theorem c_cm (X : XE) (d : Nat) {im lw : List (Option Nat)} {tl : List XC} {A : St} (ho : OKA A) {t days : Nat} (ht : t < 4) (hd : days ≤ 4) : ∀ (k q : Nat) (iv : Nat → Nat → Int32) (lv : Nat → Nat → Int64) (w5 : Option XV), q + k = nP A.1.1 → RelC A im lw tl iv → iv 21 9 = nI (nP A.1.1) → (∀ i, i < q → ∀ s, s < 2 ^ days → bitV (iv 28 i) s = latV A t days i s) → ∃ iv' lv' w5', run X (call X xT (d + 6)) false 1 xc177 22 [some (.inr (.inr (some 21))), some (.inr (.inr (some 1))), some (.inl (nI t)), some (.inl (nI days)), some (.inl (nI q)), w5] [] (SS im lw tl, iv, lv) = bV (call X xT (d + 6) 179 [.inr (.inr (some 21)), .inl (nI 0), .inl (nI days)] (SS im lw tl, upd2 iv' 21 8 (-1), lv')) (fun h1 => run X (call X xT (d + 6)) false 1 xc177 108 [some (.inr (.inr (some 21))), some (.inr (.inr (some 1))), some (.inl (nI t)), some (.inl (nI days)), some (.inl (nI (nP A.1.1))), w5'] [] h1) ∧ fr [18, 20, 23, 28] iv iv' ∧ agL lv lv' ∧ ∀ i, i < nP A.1.1 → ∀ s, s < 2 ^ days → bitV (iv' 28 i) s = latV A t days i s := by
  have n6 : nP A.1.1 ≤ 6 := ho.1.1.1.np.2
  intro k
  induction k with
  | zero =>
    intro q iv lv w5 hq h h9 hb
    have : q = nP A.1.1 := by omega
    subst this
    rw [sg177_22, h9, if_pos (nI_le (by omega) (by omega))]
    exact ⟨iv, lv, w5, rfl, fun _ _ => rfl, agL.rf, hb⟩
  | succ k ih =>
    intro q iv lv w5 hq h h9 hb
    rw [sg177_22, h9, if_neg (nI_ge (by omega) (by omega)), if_neg (nI_ge (by omega) (by omega)), if_pos (inb_nI (by omega) (by omega)), nI_clamp (by omega)]
    have f0 : fr [18, 20, 23, 28] iv (upd2 iv 28 q (nI 0)) := fr_upd _ _ _ (by simp)
    have fr' : ∀ iv2, fr [18, 20, 23, 28] iv iv2 → RelC A im lw tl iv2 := fun iv2 f2 => h.fr (fun a ha => f2 a (by simp [ncC] at ha; simp; omega)) (fun a ha => f2 a (by simp; omega))
    obtain ⟨iv1, lv1, w1, a1, a2, a3, a4, a5⟩ := c_cm_in X d ho ht (show q < 6 by omega) hd (2 ^ days) 0 (upd2 iv 28 q (nI 0)) lv (by omega) (fr' _ f0) (fun s hs => by rw [upd2_self, bit_z hs, decide_eq_false (by omega), Bool.false_and])
    have f1 : fr [18, 20, 23, 28] iv iv1 := f0.tr a2
    obtain ⟨iv2, lv2, w2, b1, b2, b3, b4⟩ := ih (q + 1) iv1 lv1 w1 (by omega) (fr' _ f1) (by rw [f1 21 (by decide)]; exact h9) (fun i hi s hs => by
      by_cases e : i = q
      · subst e; exact a4 s hs
      · rw [a5 i e, upd2_ne _ _ _ _ (fun z => e z.2)]; exact hb i (by omega) s hs)
    rw [a1]
    exact ⟨iv2, lv2, w2, b1, f1.tr b2, a3.tr b3, b4⟩
/-- the days of a province in a row, as a mask -/
def um (r : Sc) (p : Nat) : Nat → Nat
  | 0 => 0
  | d + 1 => um r p d ||| (if r d = nI p then 2 ^ d else 0)
theorem um_lt (r : Sc) (p : Nat) : ∀ d, um r p d < 2 ^ d := by
  intro d
  induction d with
  | zero => exact Nat.one_pos
  | succ d ih =>
    simp only [um]
    have h2 : 2 ^ d < 2 ^ (d + 1) := Nat.pow_lt_pow_right (by omega) (by omega)
    split
    · exact Nat.or_lt_two_pow (by omega) h2
    · rw [Nat.or_zero]; omega
theorem um_eq {r r' : Sc} (p : Nat) : ∀ d, (∀ i, i < d → r i = r' i) → um r p d = um r' p d := by
  intro d
  induction d with
  | zero => intro _; rfl
  | succ d ih => intro h; simp only [um]; rw [ih (fun i hi => h i (by omega)), h d (by omega)]
theorem um_bit (r : Sc) (p : Nat) : ∀ d i, i < d → (um r p d).testBit i = decide (r i = nI p) := by
  intro d
  induction d with
  | zero => intro i hi; omega
  | succ d ih =>
    intro i hi
    simp only [um]
    rw [Nat.testBit_or]
    by_cases e : i = d
    · subst e
      rw [Nat.testBit_lt_two_pow (um_lt r p i), Bool.false_or]
      split
      · rename_i q; rw [Nat.testBit_two_pow, decide_eq_true rfl, decide_eq_true q]
      · rename_i q; rw [Nat.zero_testBit, decide_eq_false q]
    · rw [ih i (by omega)]
      have : (if r d = nI p then 2 ^ d else 0).testBit i = false := by
        split
        · rw [Nat.testBit_two_pow, decide_eq_false (fun q => e q.symm)]
        · exact Nat.zero_testBit _
      rw [this, Bool.or_false]
theorem um_off : ∀ u, u < 16 → ∀ d, d < 4 → u < 2 ^ d → nI (u ||| 2 ^ d) &&& ((nI 1 <<< (nI d &&& 31)) ^^^ (-1)) = nI u := by decide +kernel
theorem pw_le {d : Nat} (h : d ≤ 4) : 2 ^ d ≤ 16 := p2_le h
/-- those loyal at a row's end -/
def cubW (A : St) (t days : Nat) (r : Sc) : Nat := loyN (fun p => latV A t days p (um r p days)) (nP A.1.1) 0
def cubM (A : St) (t days : Nat) (l : Lf) : Lf := (nP A.1.1 - cubW A t days l.2, l.2)
theorem c_loyAll (X : XE) (d : Nat) (im lw : List (Option Nat)) (tl : List XC) (iv : Nat → Nat → Int32) (lv : Nat → Nat → Int64) {n : Nat} (hn : n ≤ 6) (h9 : iv 21 9 = nI n) {g : Nat → Bool} {u : Nat → Nat} (hu : ∀ p, p < n → iv 29 p = nI (u p)) (hg : ∀ p, p < n → bitV (iv 28 p) (u p) = g p) : ∀ (k q x : Nat), q + k = n → run X (call X xT d) false 1 xc180 4 [some (.inr (.inr (some 21))), some (.inl (nI x)), some (.inl (nI q))] [] (SS im lw tl, iv, lv) = some (some (.inl (nI (x + loyN g k q))), (SS im lw tl, iv, lv)) := by
  intro k
  induction k with
  | zero => intro q x hq; rw [sg180_4, h9, if_pos (nI_le (by omega) (by omega))]; rfl
  | succ k ih =>
    intro q x hq
    rw [sg180_4, h9, if_neg (nI_ge (by omega) (by omega)), if_neg (nI_ge (by omega) (by omega)), if_pos (inb_nI (by omega) (by omega)), if_pos (inb_nI (by omega) (by omega)), nI_clamp (by omega), hu q (by omega), bit_v, hg q (by omega), nI_add]
    simp only [loyN]
    cases g q
    · rw [show nI x + b2i false = nI x from by show nI x + nI 0 = nI x; rw [nI_add]; rfl, if_neg (by decide), Nat.zero_add]
      exact ih (q + 1) x (by omega)
    · rw [show nI x + b2i true = nI (x + 1) from by show nI x + nI 1 = _; rw [nI_add], if_pos rfl, ← Nat.add_assoc]
      exact ih (q + 1) (x + 1) (by omega)
