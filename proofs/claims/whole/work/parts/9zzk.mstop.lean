/-! orders: where it stopped, in the reference -/
theorem relM_stop {A : St} {iv : Nat → Nat → Int32} {lv : Nat → Nat → Int64} (h : RelM A iv lv) (v : Int32) : RelM (stStop A v) (upd2 iv 46 54 v) lv := by
  have c : ∀ a, a ≠ 46 → (upd2 iv 46 54 v) a = iv a := fun a ha => upd2_off _ _ _ _ ha
  have f : ∀ k, k ≠ 54 → (upd2 iv 46 54 v) 46 k = iv 46 k := fun k hk => upd2_ne _ _ _ _ (by omega)
  obtain ⟨h1, h2, h3, h4, h5, h6, h7, h8⟩ := h
  refine ⟨?_, ?_, ?_, ?_, ?_, ?_, ?_, h8⟩
  · rw [c 48 (by decide)]; exact h1
  · unfold imgsM; rw [c 49 (by decide), c 50 (by decide)]; exact h2
  · rw [f 13 (by decide), c 55 (by decide)]; exact h3
  · unfold undoM; rw [f 8 (by decide), c 51 (by decide), c 52 (by decide)]; exact h4
  · unfold drawnM; rw [f 58 (by decide), f 59 (by decide), c 78 (by decide)]; exact h5
  · obtain ⟨m1, m2, m3, m4, m5⟩ := h6
    exact ⟨by rw [f 18 (by decide)]; exact m1, upd2_self _ _ _ _, by rw [f 11 (by decide)]; exact m3, by rw [f 1 (by decide)]; exact m4, by rw [c 47 (by decide)]; exact m5⟩
  · rw [f 20 (by decide)]; exact h7
