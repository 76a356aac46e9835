/-! show: the reference's parts -/
theorem m_sv (X : XE) (cl : XCl) (im lw : List (Option Nat)) (tl : List XC) (lv : Nat → Nat → Int64) {p : Nat} (hp : p ≤ 6) : ∀ (k i : Nat) (iv : Nat → Nat → Int32), i + k = 12 → ∃ iv', run X cl false 0 xc282 2 [some (.inr (.inr (some 46))), some (.inl (nI p)), some (.inl (nI i))] [] (SS im lw tl, iv, lv) = some (none, (SS im lw tl, iv', lv)) ∧ fr [70] iv iv' ∧ ∀ x, iv' 70 x = if 12 * p + i ≤ x ∧ x < 12 * p + 12 then iv 48 (8 + (x - 12 * p)) else iv 70 x := by
  intro k
  induction k with
  | zero =>
    intro i iv hi
    rw [sg282_2, if_pos (nI_le (by omega) (by omega))]
    exact ⟨iv, rfl, fun _ _ => rfl, fun x => by rw [if_neg (by omega)]⟩
  | succ k ih =>
    intro i iv hi
    obtain ⟨iv', a1, a2, a3⟩ := ih (i + 1) (upd2 iv 70 (12 * p + i) (iv 48 (8 + i))) (by omega)
    refine ⟨iv', ?_, (fr_upd _ _ _ (by simp)).tr a2, fun x => ?_⟩
    · rw [sg282_2, if_neg (nI_ge (by omega) (by omega)), pk_mul, nI_add, nI_add, nI_add, if_pos (ib5k (by omega)), if_pos (inb_nI (by omega) (by omega)), nI_clamp (by omega), nI_clamp (by omega)]
      exact a1
    · rw [a3 x, upd2_off _ _ _ _ (by decide)]
      by_cases e : x = 12 * p + i
      · subst e; rw [if_neg (by omega), if_pos (by omega), upd2_self, show 12 * p + i - 12 * p = i by omega]
      · rw [upd2_ne _ _ _ _ (fun z => e z.2)]
        by_cases e2 : 12 * p + i ≤ x ∧ x < 12 * p + 12
        · rw [if_pos e2, if_pos (by omega)]
        · rw [if_neg e2, if_neg (by omega)]
theorem m_ld (X : XE) (cl : XCl) (im lw : List (Option Nat)) (tl : List XC) (lv : Nat → Nat → Int64) {p : Nat} (hp : p ≤ 6) : ∀ (k i : Nat) (iv : Nat → Nat → Int32), i + k = 12 → ∃ iv', run X cl false 0 xc283 2 [some (.inr (.inr (some 46))), some (.inl (nI p)), some (.inl (nI i))] [] (SS im lw tl, iv, lv) = some (none, (SS im lw tl, iv', lv)) ∧ fr [48] iv iv' ∧ ∀ x, iv' 48 x = if 8 + i ≤ x ∧ x < 20 then iv 70 (12 * p + (x - 8)) else iv 48 x := by
  intro k
  induction k with
  | zero =>
    intro i iv hi
    rw [sg283_2, if_pos (nI_le (by omega) (by omega))]
    exact ⟨iv, rfl, fun _ _ => rfl, fun x => by rw [if_neg (by omega)]⟩
  | succ k ih =>
    intro i iv hi
    obtain ⟨iv', a1, a2, a3⟩ := ih (i + 1) (upd2 iv 48 (8 + i) (iv 70 (12 * p + i))) (by omega)
    refine ⟨iv', ?_, (fr_upd _ _ _ (by simp)).tr a2, fun x => ?_⟩
    · rw [sg283_2, if_neg (nI_ge (by omega) (by omega)), pk_mul, nI_add, nI_add, nI_add, if_pos (inb_nI (by omega) (by omega)), if_pos (ib5k (by omega)), nI_clamp (by omega), nI_clamp (by omega)]
      exact a1
    · rw [a3 x, upd2_off _ _ _ _ (by decide)]
      by_cases e : x = 8 + i
      · subst e; rw [if_neg (by omega), if_pos (by omega), upd2_self, show 8 + i - 8 = i by omega]
      · rw [upd2_ne _ _ _ _ (fun z => e z.2)]
        by_cases e2 : 8 + i ≤ x ∧ x < 20
        · rw [if_pos e2, if_pos (by omega)]
        · rw [if_neg e2, if_neg (by omega)]
theorem m_save (X : XE) (d : Nat) (im lw : List (Option Nat)) (tl : List XC) (iv : Nat → Nat → Int32) (lv : Nat → Nat → Int64) {p : Nat} (hp : p ≤ 6) : ∃ iv', call X xT (d + 1) 282 [.inr (.inr (some 46)), .inl (nI p)] (SS im lw tl, iv, lv) = some (none, (SS im lw tl, iv', lv)) ∧ fr [70] iv iv' ∧ (∀ i, i < 12 → iv' 70 (12 * p + i) = iv 48 (8 + i)) ∧ ∀ x, x < 12 * p → iv' 70 x = iv 70 x := by
  obtain ⟨iv', a1, a2, a3⟩ := m_sv X (call X xT d) im lw tl lv hp 12 0 iv (by omega)
  refine ⟨iv', by rw [tr282]; exact a1, a2, fun i hi => ?_, fun x hx => ?_⟩
  · rw [a3, if_pos (by omega), show 12 * p + i - 12 * p = i by omega]
  · rw [a3, if_neg (by omega)]
theorem m_load (X : XE) (d : Nat) (im lw : List (Option Nat)) (tl : List XC) (iv : Nat → Nat → Int32) (lv : Nat → Nat → Int64) {p : Nat} (hp : p ≤ 6) : ∃ iv', call X xT (d + 1) 283 [.inr (.inr (some 46)), .inl (nI p)] (SS im lw tl, iv, lv) = some (none, (SS im lw tl, iv', lv)) ∧ fr [48] iv iv' ∧ (∀ i, i < 12 → iv' 48 (8 + i) = iv 70 (12 * p + i)) ∧ ∀ x, (x < 8 ∨ 20 ≤ x) → iv' 48 x = iv 48 x := by
  obtain ⟨iv', a1, a2, a3⟩ := m_ld X (call X xT d) im lw tl lv hp 12 0 iv (by omega)
  refine ⟨iv', by rw [tr283]; exact a1, a2, fun i hi => ?_, fun x hx => ?_⟩
  · rw [a3, if_pos (by omega), show 8 + i - 8 = i by omega]
  · rw [a3, if_neg (by omega)]
theorem m_new_l (X : XE) (cl : XCl) (im lw : List (Option Nat)) (tl : List XC) (iv : Nat → Nat → Int32) (lv : Nat → Nat → Int64) {p j : Nat} {r : Sc} (hp : p ≤ 6) (h69 : iv 69 p = nI j) (hr : ∀ i, i < p → iv 69 i = r i) : ∀ (k q : Nat), q + k = p → run X cl false 4 xc284 4 [some (.inr (.inr (some 46))), some (.inl (nI p)), some (.inl (b2i (!tak r j q))), some (.inl (nI q))] [] (SS im lw tl, iv, lv) = some (some (.inl (b2i (!tak r j p))), (SS im lw tl, iv, lv)) := by
  intro k
  induction k with
  | zero =>
    intro q hq
    have : q = p := by omega
    subst this
    rw [sg284_4, if_pos (nI_le (by omega) (by omega)), if_pos (is01_b _)]
  | succ k ih =>
    intro q hq
    have nx := ih (q + 1) (by omega)
    have tq : tak r j (q + 1) = (tak r j q || decide (r q = nI j)) := rfl
    rw [tq] at nx
    rw [sg284_4, if_neg (nI_ge (by omega) (by omega)), b2i_ite, nI_add, if_pos (inb_nI (by omega) (by omega)), if_pos (inb_nI (by omega) (by omega)), nI_clamp (by omega), nI_clamp (by omega), h69, hr q (by omega)]
    cases ht : tak r j q
    · rw [ht] at nx
      rw [if_pos (by rfl)]
      by_cases c : r q = nI j
      · rw [if_pos c]; rw [decide_eq_true c] at nx; exact nx
      · rw [if_neg c]; rw [decide_eq_false c] at nx; exact nx
    · rw [ht] at nx
      rw [if_neg (by decide)]; exact nx
theorem m_new (X : XE) (d : Nat) (im lw : List (Option Nat)) (tl : List XC) (iv : Nat → Nat → Int32) (lv : Nat → Nat → Int64) {p j : Nat} {r : Sc} (hp : p ≤ 6) (h69 : iv 69 p = nI j) (hr : ∀ i, i < p → iv 69 i = r i) : call X xT (d + 1) 284 [.inr (.inr (some 46)), .inl (nI p)] (SS im lw tl, iv, lv) = some (some (.inl (b2i (!tak r j p))), (SS im lw tl, iv, lv)) := by
  rw [tr284]
  exact m_new_l X (call X xT d) im lw tl iv lv hp h69 hr p 0 (by omega)
/-- the row is kept -/
theorem m_sho_cp (X : XE) (cl : XCl) (im lw : List (Option Nat)) (tl : List XC) (lv : Nat → Nat → Int64) {n c : Nat} (hn : n ≤ 6) (v1 v2 v5 : Int32) {v4 : Int32} (hb : ¬ v4 ≤ nI c) : ∀ (k i : Nat) (iv : Nat → Nat → Int32), i + k = n → iv 71 n = nI c → ∃ iv', run X cl false 1 xc280 120 [some (.inr (.inr (some 46))), some (.inl v1), some (.inl v2), some (.inl (nI n)), some (.inl v4), some (.inl v5), some (.inl (nI n)), some (.inl (nI i))] [] (SS im lw tl, iv, lv) = run X cl false 1 xc280 73 [some (.inr (.inr (some 46))), some (.inl v1), some (.inl v2), some (.inl (nI n)), some (.inl (nI c)), some (.inl v5), some (.inl (nI n + (-1))), some (.inl (nI n))] [] (SS im lw tl, iv', lv) ∧ fr [72] iv iv' ∧ ∀ q, iv' 72 q = if i ≤ q ∧ q < n then iv 69 q else iv 72 q := by
  intro k
  induction k with
  | zero =>
    intro i iv hi h71
    have : i = n := by omega
    subst this
    rw [sg280_120, if_pos (nI_le (by omega) (by omega)), if_pos rfl, if_pos (inb_nI (by omega) (by omega)), nI_clamp (by omega), h71, if_neg hb, if_pos (inb_nI (by omega) (by omega))]
    exact ⟨iv, rfl, fun _ _ => rfl, fun q => by rw [if_neg (by omega)]⟩
  | succ k ih =>
    intro i iv hi h71
    obtain ⟨iv', a1, a2, a3⟩ := ih (i + 1) (upd2 iv 72 i (iv 69 i)) (by omega) (by rw [upd2_off _ _ _ _ (by decide)]; exact h71)
    refine ⟨iv', ?_, (fr_upd _ _ _ (by simp)).tr a2, fun q => ?_⟩
    · rw [sg280_120, if_neg (nI_ge (by omega) (by omega)), if_pos rfl, if_pos (inb_nI (by omega) (by omega)), nI_clamp (by omega), h71, if_neg hb, if_pos (inb_nI (by omega) (by omega)), if_pos (inb_nI (by omega) (by omega)), nI_clamp (by omega), nI_add]
      exact a1
    · rw [a3 q, upd2_off _ _ _ _ (by decide)]
      by_cases e : q = i
      · subst e; rw [if_neg (by omega), if_pos (by omega), upd2_self]
      · rw [upd2_ne _ _ _ _ (fun z => e z.2)]
        by_cases e2 : i ≤ q ∧ q < n
        · rw [if_pos e2, if_pos (by omega)]
        · rw [if_neg e2, if_neg (by omega)]
/-- nothing is left of what may not act -/
theorem levI_nil {rec : Sc → Nat → List Lf} {st : Nat → Sc → Option Nat} {p : Nat} {r : Sc} {c : Nat} : ∀ (k j : Nat), (∀ i, j ≤ i → i < j + k → st i r = none) → levI rec st p r c k j = [] := by
  intro k
  induction k with
  | zero => intro j _; rfl
  | succ k ih =>
    intro j h
    simp only [levI]
    rw [h j (by omega) (by omega), ih (j + 1) (fun i h1 h2 => h i (by omega) (by omega))]
    rfl
/-- the paper's row: hunger and temper apart it is the first one -/
def shoP (f g0 g : Sc) : Prop := rowS g0 g ∧ ∀ j, j < 59 → (j < 5 ∨ 17 ≤ j) → g (mx j) = f j
theorem mx_o {j : Nat} (h : j < 59) (h2 : j < 5 ∨ 17 ≤ j) : mx j < 8 ∨ 20 ≤ mx j := by unfold mx; split <;> (try split) <;> (try split) <;> omega
theorem mx_i {i : Nat} (h : i < 12) : mx (5 + i) = 8 + i := by unfold mx; split <;> (try split) <;> (try split) <;> omega
/-- a level brought back -/
theorem shoP_ld {f g0 g g' : Sc} {P : Sc} (h : shoP f g0 g) (h1 : ∀ x, (x < 8 ∨ 20 ≤ x) → g' x = g x) (h2 : ∀ i, i < 12 → g' (8 + i) = P (5 + i)) (h3 : ∀ j, j < 59 → (j < 5 ∨ 17 ≤ j) → P j = f j) : shoP f g0 g' ∧ eqS P (fM g') := by
  refine ⟨⟨fun i hi => (h1 i (by omega)).trans (h.1 i hi), fun j hj hj2 => (h1 _ (mx_o hj hj2)).trans (h.2 j hj hj2)⟩, fun j hj => ?_⟩
  unfold fM
  by_cases e : j < 5 ∨ 17 ≤ j
  · rw [h1 _ (mx_o hj e), h.2 j hj e, h3 j hj e]
  · obtain ⟨i, rfl⟩ : ∃ i, j = 5 + i := ⟨j - 5, by omega⟩
    rw [mx_i (by omega), h2 i (by omega)]
