/-! the class's call to read -/
section r2
variable {X : XE} {im lw : List (Option Nat)} {tl : List XC} {lv : Nat → Nat → Int64} {q : Bool} {tk pl : Nat → Nat} {nt : Nat}
theorem c_textL (d : Nat) (he : tk nt = 9999) (v1 : Int32) : ∀ (k z : Nat) (iv : Nat → Nat → Int32) (gs : List GC) (c i : Nat) (w3 : Option XV), z + k = 12 → gs.length = z → stC q tk pl nt iv (cA gs) c i → iv 12 3 = nI gs.length → rowsC iv gs → poT im lw tl lv pl iv (pText q tk k gs c i) (run X (call X xT (d + 36)) false 4 xc69 35 [some (.inr (.inr (some 11))), some (.inl v1), some (.inl (nI z)), w3] [] (SS im lw tl, iv, lv)) := by
  intro k
  induction k with
  | zero =>
    intro z iv gs c i w3 hz hg h h3 hr
    obtain ⟨iv1, a1, a2, a3, a4⟩ := c_fails X im lw tl lv (d + 35) h
    rw [sg69_35, if_pos (nI_le (by omega) (by omega)), a1, bI_some, sg69_100, if_pos (by decide)]
    exact ⟨iv1, rfl, a2, a3.L⟩
  | succ k ih =>
    intro z iv gs c i w3 hz hg h h3 hr
    have h4 : iv 11 4 = b2i q := h.1.2.2.2.2.1
    have cl : ∃ K, run X (call X xT (d + 36)) false 4 xc69 35 [some (.inr (.inr (some 11))), some (.inl v1), some (.inl (nI z)), w3] [] (SS im lw tl, iv, lv) = bI (call X xT (d + 36) (if q = true then 83 else 103) [.inr (.inr (some 11))] (SS im lw tl, iv, lv)) K ∧ ∀ u iv', K u (SS im lw tl, iv', lv) = run X (call X xT (d + 36)) false 4 xc69 59 [some (.inr (.inr (some 11))), some (.inl v1), some (.inl (nI z)), w3] [.inl u] (SS im lw tl, iv', lv) := by
      rw [sg69_35, if_neg (nI_ge (by omega) (by omega)), h4]
      cases q with
      | true => rw [if_neg (show ¬ b2i true = 0 by decide), if_pos rfl]; exact ⟨_, rfl, fun u iv' => by rw [sg69_52]⟩
      | false => rw [if_pos (show b2i false = 0 by decide), if_neg (by decide)]; exact ⟨_, rfl, fun u iv' => rfl⟩
    obtain ⟨K, k1, k2⟩ := cl
    have p : poL im lw tl lv pl iv (pCl q tk c i) (QC q tk pl nt gs) (call X xT (d + 36) (if q = true then 83 else 103) [.inr (.inr (some 11))] (SS im lw tl, iv, lv)) := by
      unfold pCl
      by_cases e : q = true
      · rw [if_pos e, if_pos e]; exact c_ord1 d he (by omega) h h3 hr
      · rw [if_neg e, if_neg e]; exact c_law1 d he (by omega) h h3 hr
    rw [k1]
    unfold pText
    cases hp : pCl q tk c i with
    | inl e =>
      rw [hp] at p
      obtain ⟨iv1, a1, a2, a3⟩ := p
      rw [a1, bI_some, k2, sg69_59, if_pos n0z]
      exact ⟨iv1, rfl, a2, a3⟩
    | inr x =>
      rw [hp] at p
      obtain ⟨iv1, a1, ⟨a2, a3, a4⟩, a5⟩ := p
      have ht := a2.t
      rw [a1, bI_some, k2, sg69_59, if_neg n1z, a2.2.2.2.2.1]
      simp only
      have hl : (cA (gs ++ [x.1])).length ≤ x.2.2 := a2.2.2.2.2.2.2.2.1
      have hn : x.2.2 ≤ nt := a2.2.1
      have hn4 : nt ≤ 400 := a2.1.1
      by_cases e9 : tk x.2.2 = 9999
      · rw [if_pos ((tI_end ht).mpr e9), if_pos e9]
        exact ⟨iv1, rfl, a2.1.2.2.2.2.2, by rw [List.length_append, List.length_singleton]; omega, by rw [List.length_append, List.length_singleton]; exact a3, a2.2.2.2.2.2.2.1, by omega, a2.2.2.2.2.2.2.2.2, a4, a5⟩
      · rw [if_neg (fun z => e9 ((tI_end ht).mp z)), if_neg e9]
        obtain ⟨iv2, b1, b2, b3⟩ := c_takes X im lw tl lv (d + 34) a2 (w := 59) (by omega)
        rw [b1, bI_some, sg69_82, b2i_ite]
        by_cases es : tk x.2.2 = 59
        · rw [if_pos (decide_eq_true es), if_pos es, nI_add]
          rw [if_pos es] at b2
          refine poT_tr (ih (z + 1) iv2 (gs ++ [x.1]) x.2.1 (x.2.2 + 1) _ (by omega) (by rw [List.length_append, List.length_singleton]; omega) b2 (by rw [b3.m.2, List.length_append, List.length_singleton]; exact a3) ?_) (a5.tr b3.L)
          intro j g hj k hk
          rw [b3.m.1]; exact a4 j g hj k hk
        · rw [if_neg (show ¬ decide (tk x.2.2 = 59) = true by rw [decide_eq_false es]; decide), if_neg es]
          rw [if_neg es] at b2
          obtain ⟨iv3, d1, d2, d3, d4⟩ := c_fails X im lw tl lv (d + 35) b2
          rw [d1, bI_some, sg69_89, if_pos (by decide)]
          exact ⟨iv3, rfl, d2, (a5.tr b3.L).tr d3.L⟩
/-- the text on the tape is read; the tape is empty then -/
theorem c_reads (hX : XOK X) (d : Nat) {b : Nat → Nat} {n : Nat} {iv : Nat → Nat → Int32} (h : txtC b n iv) (q : Bool) : ∃ iv2, poT im lw tl lv (plF b n) iv2 (pText q (tkF b n) 12 [] 0 0) (call X xT (d + 37) 69 [.inr (.inr (some 11)), .inl (b2i q)] (SS im lw tl, iv, lv)) ∧ fr [9, 11, 12, 13, 14, 15, 16] iv iv2 ∧ iv2 9 1 = nI 0 ∧ iv2 9 0 = iv 9 0 := by
  rw [tr69, if_pos (is01_b q), tr70p, bV_some, sg69_12]
  have off : ∀ a, a ≠ 11 → a ≠ 12 → (upd2 (upd2 (upd2 (upd2 (upd2 iv 11 4 (b2i q)) 12 2 (nI 0)) 12 3 (nI 0)) 11 7 (nI 0)) 11 8 (-1)) a = iv a := fun a h1 h2 => by
    rw [upd2_off _ _ _ _ h1, upd2_off _ _ _ _ h1, upd2_off _ _ _ _ h2, upd2_off _ _ _ _ h2, upd2_off _ _ _ _ h1]
  generalize hg : upd2 (upd2 (upd2 (upd2 (upd2 iv 11 4 (b2i q)) 12 2 (nI 0)) 12 3 (nI 0)) 11 7 (nI 0)) 11 8 (-1) = iv1 at off
  have g4 : iv1 11 4 = b2i q := by rw [← hg, upd2_ne _ _ _ _ (by decide), upd2_ne _ _ _ _ (by decide), upd2_off _ _ _ _ (by decide), upd2_off _ _ _ _ (by decide), upd2_self]
  have g7 : iv1 11 7 = nI 0 := by rw [← hg, upd2_ne _ _ _ _ (by decide), upd2_self]
  have g8 : iv1 11 8 = -1 := by rw [← hg, upd2_self]
  have g2 : iv1 12 2 = nI 0 := by rw [← hg, upd2_off _ _ _ _ (by decide), upd2_off _ _ _ _ (by decide), upd2_ne _ _ _ _ (by decide), upd2_self]
  have g3 : iv1 12 3 = nI 0 := by rw [← hg, upd2_off _ _ _ _ (by decide), upd2_off _ _ _ _ (by decide), upd2_self]
  obtain ⟨iv2, a1, a2, a3, a4, a5, a6⟩ := c_find X im lw tl lv hX (d + 29) (txtC_fr h (off 9 (by decide) (by decide)) (off 10 (by decide) (by decide)))
  rw [a1, bV_some, sg69_26, tr66, bV_some, sg69_33]
  obtain ⟨n1, n2, n3⟩ := ntF_ok b n
  have hn := h.2.1
  have f12 : fr [9, 11, 12, 13, 14, 15, 16] iv iv2 := fun a ha => by
    rw [a5 a (by simp at ha ⊢; omega), off a (by simp at ha; omega) (by simp at ha; omega)]
  have z : ∀ a, a ≠ 9 → (upd2 iv2 9 1 (nI 0)) a = iv2 a := fun a ha => upd2_off _ _ _ _ ha
  refine ⟨upd2 iv2 9 1 (nI 0), ?_, f12.tr (fr_upd _ _ _ (by simp)), upd2_self _ _ _ _, ?_⟩
  · refine c_textL (nt := ntF b n) d (tkF_end b n) (b2i q) 12 0 _ [] 0 0 none (by omega) rfl ?_ ?_ (fun j g hj => by cases hj)
    · refine ⟨⟨by omega, tkF_end b n, fun j hj => tkF_lt h.2.2.2 hj, fun j hj => ?_, ?_⟩, Nat.zero_le _, by omega, ?_, ?_, ?_, ?_, Nat.zero_le _, fun k x hx => by cases hx⟩
      · rw [z 15 (by decide), z 16 (by decide)]; exact a2 j hj
      · rw [z 11 (by decide)]; exact ⟨by rw [a6 4 (by decide) (by decide)]; exact g4, by rw [a6 8 (by decide) (by decide)]; exact g8⟩
      · rw [z 11 (by decide)]; exact a3
      · rw [z 11 (by decide)]; exact a4
      · rw [z 11 (by decide), a6 7 (by decide) (by decide)]; exact g7
      · rw [z 12 (by decide), a5 12 (by decide)]; exact g2
    · rw [z 12 (by decide), a5 12 (by decide)]; exact g3
  · rw [upd2_ne _ _ _ _ (by decide), a5 9 (by decide), off 9 (by decide) (by decide)]
end r2
