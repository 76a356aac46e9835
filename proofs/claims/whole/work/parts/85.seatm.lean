/-! seats: the reference's part -/
def dfV (x y : Int32) : Int32 := ((x - y) + nI 8) - ((x - y) + nI 8) / nI 8 * nI 8
theorem df_0 : ∀ a, a < 8 → ∀ b, b < 8 → (dfV (nI a) (nI b) = 0 ↔ nI b = nI a) := by decide +kernel
theorem df_b : ∀ a, a < 8 → ∀ b, b < 8 → besV (nI a) (nI b) = decide (dfV (nI a) (nI b) = nI 1 ∨ dfV (nI a) (nI b) = nI 7) := by decide +kernel
def bad1 (x : Int32) (r : Sc) (j q : Nat) : Bool := decide (r q = nI j) || (bitV x q && besV (nI j) (r q))
def bad (x : Int32) (r : Sc) (j : Nat) : Nat → Nat → Bool
  | 0, _ => false
  | k + 1, q => bad1 x r j q || bad x r j k (q + 1)
theorem bad_iff {x : Int32} {r : Sc} {j : Nat} : ∀ k q, bad x r j k q = true ↔ ∃ i, q ≤ i ∧ i < q + k ∧ bad1 x r j i = true := by
  intro k
  induction k with
  | zero => intro q; exact ⟨fun h => (by cases h), fun ⟨i, h1, h2, _⟩ => by omega⟩
  | succ k ih =>
    intro q
    simp only [bad, Bool.or_eq_true]
    rw [ih (q + 1)]
    constructor
    · rintro (h | ⟨i, h1, h2, h3⟩)
      · exact ⟨q, by omega, by omega, h⟩
      · exact ⟨i, by omega, by omega, h3⟩
    · rintro ⟨i, h1, h2, h3⟩
      by_cases e : i = q
      · subst e; exact Or.inl h3
      · exact Or.inr ⟨i, by omega, by omega, h3⟩
theorem tak_iff {r : Sc} {j : Nat} : ∀ p, tak r j p = true ↔ ∃ i, i < p ∧ r i = nI j := by
  intro p
  induction p with
  | zero => exact ⟨fun h => (by cases h), fun ⟨i, h1, _⟩ => by omega⟩
  | succ p ih =>
    simp only [tak, Bool.or_eq_true, decide_eq_true_eq]
    rw [ih]
    constructor
    · rintro (⟨i, h1, h2⟩ | h)
      · exact ⟨i, by omega, h2⟩
      · exact ⟨p, by omega, h⟩
    · rintro ⟨i, h1, h2⟩
      by_cases e : i = p
      · subst e; exact Or.inr h2
      · exact Or.inl ⟨i, by omega, h2⟩
theorem foe_iff {x : Int32} {r : Sc} {j : Nat} : ∀ k q, foe x r j k q = true ↔ ∃ i, q ≤ i ∧ i < q + k ∧ (bitV x i && besV (nI j) (r i)) = true := by
  intro k
  induction k with
  | zero => intro q; exact ⟨fun h => (by cases h), fun ⟨i, h1, h2, _⟩ => by omega⟩
  | succ k ih =>
    intro q
    rw [show foe x r j (k + 1) q = ((bitV x q && besV (nI j) (r q)) || foe x r j k (q + 1)) from rfl, Bool.or_eq_true, ih (q + 1)]
    constructor
    · rintro (h | ⟨i, h1, h2, h3⟩)
      · exact ⟨q, by omega, by omega, h⟩
      · exact ⟨i, by omega, by omega, h3⟩
    · rintro ⟨i, h1, h2, h3⟩
      by_cases e : i = q
      · subst e; exact Or.inl h3
      · exact Or.inr ⟨i, by omega, by omega, h3⟩
theorem bad_is {x : Int32} {r : Sc} {j p : Nat} : bad x r j p 0 = true ↔ (tak r j p = true ∨ foe x r j p 0 = true) := by
  rw [bad_iff, tak_iff, foe_iff]
  constructor
  · rintro ⟨i, h1, h2, h3⟩
    simp only [bad1, Bool.or_eq_true, decide_eq_true_eq] at h3
    rcases h3 with h3 | h3
    · exact Or.inl ⟨i, by omega, h3⟩
    · exact Or.inr ⟨i, h1, h2, h3⟩
  · rintro (⟨i, h1, h2⟩ | ⟨i, h1, h2, h3⟩)
    · exact ⟨i, by omega, by omega, by simp [bad1, h2]⟩
    · exact ⟨i, h1, h2, by rw [bad1, h3, Bool.or_true]⟩
theorem is01_b (s : Bool) : is01 (b2i s) = true := by cases s <;> decide
theorem m_fits (X : XE) (d : Nat) (im lw : List (Option Nat)) (tl : List XC) (iv : Nat → Nat → Int32) (lv : Nat → Nat → Int64) {p j : Nat} {x : Int32} {r : Sc} (hp : p < 6) (hj : j < 8) (h69 : iv 69 p = nI j) (hx : iv 48 (62 + p) = x) (hr : ∀ i, i < p → iv 69 i = r i) (hv : ∀ i, i < p → ∃ a, a < 8 ∧ r i = nI a) : ∀ (k q : Nat) (s : Bool) (w4 w5 : Option XV), q + k = p → run X (call X xT (d + 1)) false 4 xc289 4 [some (.inr (.inr (some 46))), some (.inl (nI p)), some (.inl (b2i s)), some (.inl (nI q)), w4, w5] [] (SS im lw tl, iv, lv) = some (some (.inl (b2i (s && !bad x r j k q))), (SS im lw tl, iv, lv)) := by
  intro k
  induction k with
  | zero =>
    intro q s w4 w5 hq
    rw [sg289_4, if_pos (nI_le (by omega) (by omega)), if_pos (is01_b s)]
    simp [bad]
  | succ k ih =>
    intro q s w4 w5 hq
    rw [sg289_4, if_neg (nI_ge (by omega) (by omega)), if_pos (inb_nI (by omega) (by omega)), if_pos (inb_nI (by omega) (by omega)), nI_clamp (by omega), nI_clamp (by omega), h69, hr q (by omega), nI_add, nI_add]
    obtain ⟨a, ha, ea⟩ := hv q (by omega)
    have hbad : ∀ t : Bool, bad x r j (k + 1) q = (bad1 x r j q || bad x r j k (q + 1)) := fun _ => rfl
    rw [hbad true]
    change (if dfV (nI j) (r q) = nI 1 then _ else _) = _
    have d0 := df_0 j hj a ha
    have db := df_b j hj a ha
    rw [← ea] at d0 db
    have nx := fun (s : Bool) (w4 w5 : Option XV) => ih (q + 1) s w4 w5 (by omega)
    have zf : ∀ w4 w5, run X (call X xT (d + 1)) false 4 xc289 4 [some (.inr (.inr (some 46))), some (.inl (nI p)), some (.inl (nI 0)), some (.inl (nI (q + 1))), w4, w5] [] (SS im lw tl, iv, lv) = some (some (.inl (b2i false)), (SS im lw tl, iv, lv)) := fun w4 w5 => nx false w4 w5
    have zt : ∀ w4 w5, run X (call X xT (d + 1)) false 4 xc289 4 [some (.inr (.inr (some 46))), some (.inl (nI p)), some (.inl (nI 1)), some (.inl (nI (q + 1))), w4, w5] [] (SS im lw tl, iv, lv) = some (some (.inl (b2i (!bad x r j k (q + 1)))), (SS im lw tl, iv, lv)) := fun w4 w5 => by have := nx true w4 w5; rw [Bool.true_and] at this; exact this
    cases s
    · rw [Bool.false_and]
      split
      · rw [if_pos (by decide)]; exact zf _ _
      · split
        · rw [if_pos (by decide)]; exact zf _ _
        · rw [if_pos (by decide)]; exact zf _ _
    · rw [Bool.true_and]
      have main : dfV (nI j) (r q) = nI 1 ∨ dfV (nI j) (r q) = nI 7 → ∀ w4 w5, (if dfV (nI j) (r q) = 0 then run X (call X xT (d + 1)) false 4 xc289 4 [some (.inr (.inr (some 46))), some (.inl (nI p)), some (.inl (nI 0)), some (.inl (nI (q + 1))), some (.inl w4), some (.inl w5)] [] (SS im lw tl, iv, lv) else if inb (nI (62 + p)) 5510 = true then bI (call X xT (d + 1) 281 [.inl (iv 48 (nI (62 + p)).toNatClampNeg), .inl (nI q)] (SS im lw tl, iv, lv)) (fun r2 h1 => run X (call X xT (d + 1)) false 4 xc289 77 [some (.inr (.inr (some 46))), some (.inl (nI p)), some (.inl (b2i true)), some (.inl (nI q)), some (.inl w4), some (.inl w5)] [.inl r2] h1) else none) = some (some (.inl (b2i (!(bad1 x r j q || bad x r j k (q + 1))))), (SS im lw tl, iv, lv)) := by
        intro hb w4 w5
        have hbs : besV (nI j) (r q) = true := by rw [db]; exact decide_eq_true hb
        by_cases c0 : dfV (nI j) (r q) = 0
        · rw [if_pos c0, zf, show bad1 x r j q = true by simp [bad1, d0.mp c0]]; rfl
        · rw [if_neg c0, if_pos (inb_nI (by omega) (by omega)), nI_clamp (by omega), hx, m_is, bI_some, sg289_77, b2i_ite, nI_add]
          have b1 : bad1 x r j q = bitV x q := by
            unfold bad1; rw [decide_eq_false (fun e => c0 (d0.mpr e)), hbs, Bool.and_true, Bool.false_or]
          rw [b1]
          cases bitV x q
          · rw [if_neg (by decide), zt]; rfl
          · rw [if_pos rfl, zf]; rfl
      by_cases c1 : dfV (nI j) (r q) = nI 1
      · rw [if_pos c1, if_neg (by decide)]; exact main (Or.inl c1) _ _
      · rw [if_neg c1]
        change (if dfV (nI j) (r q) = nI 7 then _ else _) = _
        by_cases c7 : dfV (nI j) (r q) = nI 7
        · rw [if_pos c7, if_neg (by decide)]; exact main (Or.inr c7) _ _
        · rw [if_neg c7, if_neg (by decide)]
          change (if dfV (nI j) (r q) = 0 then _ else _) = _
          have hbs : besV (nI j) (r q) = false := by rw [db]; exact decide_eq_false (fun e => by rcases e with e | e <;> contradiction)
          by_cases c0 : dfV (nI j) (r q) = 0
          · rw [if_pos c0, zf, show bad1 x r j q = true by simp [bad1, d0.mp c0]]; rfl
          · have b1 : bad1 x r j q = false := by
              unfold bad1; rw [decide_eq_false (fun e => c0 (d0.mpr e)), hbs, Bool.and_false, Bool.false_or]
            rw [if_neg c0, zt, b1]; rfl
