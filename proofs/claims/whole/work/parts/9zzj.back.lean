/-! orders: the start's relation again -/
theorem mx_cases {j : Nat} (h : j < 59) : (5 ≤ mx j ∧ mx j < 58) ∨ j = 0 ∨ j = 1 ∨ (23 ≤ j ∧ j < 27) := by unfold mx; split <;> (try split) <;> (try split) <;> omega
theorem relM_back {A B : St} {iv0 iv iv' : Nat → Nat → Int32} {lv0 lv : Nat → Nat → Int64} (h0 : RelM A iv0 lv0) (hB : RelM B iv lv) (sm : samS A B) (hU : A.2.2.2.1.length ≤ 16) (row : ∀ j, j < 53 → iv' 48 (5 + j) = iv0 48 (5 + j)) (rest : ∀ x, (x < 5 ∨ 58 ≤ x) → iv' 48 x = iv 48 x) (u1 : ∀ x, x < 848 → iv' 51 x = iv0 51 x) (u2 : ∀ x, x < 16 → iv' 52 x = iv0 52 x) (h8 : iv' 46 8 = iv0 46 8) (f : ∀ a k, a ≠ 48 → a ≠ 51 → a ≠ 52 → ¬ (a = 46 ∧ k = 8) → iv' a k = iv a k) : RelM A iv' lv := by
  obtain ⟨s1, s2, s3, s4, s5⟩ := sm
  have c : ∀ a, a ≠ 46 → a ≠ 48 → a ≠ 51 → a ≠ 52 → iv' a = iv a := fun a h1 h2 h3 h4 => by funext k; exact f a k h2 h3 h4 (by omega)
  have c46 : ∀ k, k ≠ 8 → iv' 46 k = iv 46 k := fun k hk => f 46 k (by decide) (by decide) (by decide) (by omega)
  obtain ⟨b1, b2, b3, b4, b5, b6, b7, b8⟩ := hB
  obtain ⟨r1, r2, r3, r4, r5, r6, r7⟩ := b1
  rw [s1] at r2 r3 r4 r5 r6 r7
  rw [s2] at b2
  rw [s3] at b3
  rw [s4] at b5 b6
  have lc : ∀ x, (x < 5 ∨ 58 ≤ x) → iv' 48 x = iv 48 x := rest
  refine ⟨⟨fun j hj => ?_, by rw [lc 2 (by omega)]; exact r2, fun j hj => by rw [lc _ (by omega)]; exact r3 j hj, fun p hp => by rw [lc _ (by omega)]; exact r4 p hp, by rw [lc 3 (by omega)]; exact r5, by rw [lc 4 (by omega)]; exact r6, fun k hk => ?_⟩, ?_, ?_, ⟨by rw [h8]; exact h0.2.2.2.1.1, fun i e he => ?_⟩, ?_, ?_, by rw [c46 20 (by omega)]; exact b7, b8⟩
  · rcases mx_cases hj with q | q | q | q
    · show _ = iv' 48 (mx j)
      rw [show mx j = 5 + (mx j - 5) by omega, row _ (by omega), show 5 + (mx j - 5) = mx j by omega]
      exact h0.1.1 j hj
    · subst q
      show _ = iv' 48 0
      rw [lc 0 (by omega), ← s5.1]; exact r1 0 (by omega)
    · subst q
      show _ = iv' 48 1
      rw [lc 1 (by omega), ← s5.2.1]; exact r1 1 (by omega)
    · have e : j = 23 + (j - 23) := by omega
      have := s5.2.2 (j - 23) (by omega)
      rw [← e] at this
      show _ = iv' 48 (mx j)
      have hm : mx j = 58 + (j - 23) := by rw [e, mx_n (by omega)]; omega
      rw [lc _ (by omega), ← this]; exact r1 j hj
  · exact (r7 k hk).row (by omega) (fun x hx => lc x (by omega))
  · unfold imgsM; rw [c 49 (by decide) (by decide) (by decide) (by decide), c 50 (by decide) (by decide) (by decide) (by decide)]; exact b2
  · rw [c46 13 (by omega), c 55 (by decide) (by decide) (by decide) (by decide)]; exact b3
  · have hq := h0.2.2.2.1.2 i e he
    have hl := getE_lt he
    exact ⟨by rw [u2 _ (by omega)]; exact hq.1, fun j hj => by rw [u1 _ (by omega)]; exact hq.2 j hj⟩
  · unfold drawnM; rw [c46 58 (by omega), c46 59 (by omega), c 78 (by decide) (by decide) (by decide) (by decide)]; exact b5
  · unfold miscM; rw [c46 18 (by omega), c46 54 (by omega), c46 11 (by omega), c46 1 (by omega), c 47 (by decide) (by decide) (by decide) (by decide)]; exact b6
