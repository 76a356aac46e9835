/-! show: the class's search -/
def sB (o : Option Lf) : Int32 := match o with
  | none => nI 7
  | some b => nI b.1
def actI (M : Nat) (o : Option Lf) (iv : Nat → Nat → Int32) : Prop := iv 21 8 = sB o ∧ ∀ b, o = some b → b.1 ≤ 6 ∧ ∀ i, i < M → iv 27 i = b.2 i
def actR (im lw : List (Option Nat)) (tl : List XC) (lv : Nat → Nat → Int64) (M p : Nat) (iv : Nat → Nat → Int32) (o : Option Lf) (T : Option XR) : Prop := ∃ iv', T = some (none, (SS im lw tl, iv', lv)) ∧ actI M o iv' ∧ fr [21, 23, 24, 26, 27] iv iv' ∧ (∀ x, x < 59 * p → iv' 24 x = iv 24 x) ∧ (∀ i, i < p → iv' 26 i = iv 26 i) ∧ ∀ j, j < 59 → iv' 23 j = iv 23 j
theorem sB_lt {o : Option Lf} {c : Nat} (hc : c ≤ 6) (h : ∀ b, o = some b → b.1 ≤ 6) : (nI c < sB o ∧ ∀ b, o = some b → c < b.1) ∨ (¬ nI c < sB o ∧ ∃ b, o = some b ∧ b.1 ≤ c) := by
  cases o with
  | none => exact Or.inl ⟨nI_lt (by omega) (by omega), fun b hb => by cases hb⟩
  | some b =>
    have := h b rfl
    by_cases e : c < b.1
    · exact Or.inl ⟨nI_lt e (by omega), fun b' hb => by injection hb with hb; rw [← hb]; exact e⟩
    · exact Or.inr ⟨nI_nlt (by omega) (by omega), b, rfl, by omega⟩
