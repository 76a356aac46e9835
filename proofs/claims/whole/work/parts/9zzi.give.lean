/-! orders: giveBack -/
theorem m_give (X : XE) (d : Nat) (im lw : List (Option Nat)) (tl : List XC) (iv : Nat → Nat → Int32) (lv : Nat → Nat → Int64) (v1 : Int32) : ∃ iv', call X xT (d + 2) 314 [.inr (.inr (some 46)), .inl v1] (SS im lw tl, iv, lv) = some (none, (SS im lw tl, iv', lv)) ∧ (∀ j, j < 53 → iv' 48 (5 + j) = iv 51 (53 * 17 + j)) ∧ (∀ x, (x < 5 ∨ 58 ≤ x) → iv' 48 x = iv 48 x) ∧ (∀ x, x < 848 → iv' 51 x = iv 53 x) ∧ (∀ x, x < 16 → iv' 52 x = iv 54 x) ∧ iv' 46 8 = v1 ∧ ∀ a k, a ≠ 48 → a ≠ 51 → a ≠ 52 → ¬ (a = 46 ∧ k = 8) → iv' a k = iv a k := by
  obtain ⟨g, g1, g2, g3⟩ := m_putBack X d im lw tl iv lv (k := 17) (by omega)
  obtain ⟨p, p1, p2, p3⟩ := m_cp8 X (call X xT (d + 1)) im lw tl lv v1 848 0 (upr iv 48 g) (by omega)
  obtain ⟨q, q1, q2, q3⟩ := m_cp35 X (call X xT (d + 1)) im lw tl lv v1 16 0 (upr (upr iv 48 g) 51 p) (by omega)
  rw [tr314, g1, bV_some, sg314_6, p1, sg314_8, if_pos (by decide), q1, sg314_35, if_pos (by decide)]
  refine ⟨_, rfl, fun j hj => ?_, fun x hx => ?_, fun x hx => ?_, fun x hx => ?_, upd2_self _ _ _ _, fun a k h1 h2 h3 h4 => ?_⟩
  · rw [upd2_off _ _ _ _ (by decide), upr_off _ _ _ (by decide), upr_off _ _ _ (by decide), upr_self]; exact g2 j hj
  · rw [upd2_off _ _ _ _ (by decide), upr_off _ _ _ (by decide), upr_off _ _ _ (by decide), upr_self]; exact g3 x hx
  · rw [upd2_off _ _ _ _ (by decide), upr_off _ _ _ (by decide), upr_self, p2 x (by omega) hx, upr_off _ _ _ (by decide)]
  · rw [upd2_off _ _ _ _ (by decide), upr_self, q2 x (by omega) hx, upr_off _ _ _ (by decide), upr_off _ _ _ (by decide)]
  · rw [upd2_ne _ _ _ _ h4, upr_off _ _ _ h3, upr_off _ _ _ h2, upr_off _ _ _ h1]
