/-! the reference's reading: its turns -/
section mt
variable {X : XE} {im lw : List (Option Nat)} {tl : List XC} {q : Bool} {b : Nat → Nat} {n : Nat}
/-- one goes into the code -/
theorem m_emt (d : Nat) {iv : Nat → Nat → Int32} {lv : Nat → Nat → Int64} {i : Nat} {C P : Cd} {o c x y c' : Nat} (h : stM q b n iv lv i C P o c) (hi : pInv (ntF b n) i (C ++ [(x, y)]) P o c') : ∃ iv', call X xT (d + 1) 253 [.inr (.inr (some 46)), .inl (nI x), .inl (nI y)] (SS im lw tl, iv, lv) = some (none, (SS im lw tl, iv', lv)) ∧ lexM b n i iv' lv ∧ st0 q iv' (C ++ [(x, y)]) P o c ∧ frX iv iv' := by
  have hn := (ntF_ok b n).2.2
  obtain ⟨h1, h2, h3, h4⟩ := h
  have hn4 := h1.1.2.1
  obtain ⟨s1, s2, s3, s4, s5, s6, s7, s8, s9⟩ := h2
  obtain ⟨p1, p2, p3, p4, p5, p6⟩ := hi
  rw [List.length_append, List.length_singleton] at p2
  obtain ⟨iv', a1, a2, a3, a4, a5, a6, a7⟩ := m_emit X im lw tl d lv s5 (by omega) (nI x) (nI y)
  refine ⟨iv', a1, lexM_P h1 (fun a k hk => a7 a k (by omega)), ⟨by rw [a7 46 19 (by omega)]; exact s1, by rw [a7 46 18 (by omega)]; exact s2, by rw [a7 46 20 (by omega)]; exact s3, a6 x y rfl rfl s4, by rw [List.length_append, List.length_singleton]; exact a2, by rw [a3]; exact s6, plM_fr P.length (fun k _ => ⟨by rw [a4], by rw [a5]⟩) P (Nat.le_refl _) s7, by rw [a7 46 30 (by omega)]; exact s8, by rw [a7 46 26 (by omega)]; exact s9⟩, a7.X⟩
theorem pInv_em {nt i : Nat} {C P : Cd} {o c c' x y : Nat} (h : pInv nt i C P o c) (hi : i < nt) (hc : c' ≤ 50) : pInv nt (i + 1) (C ++ [(x, y)]) P o c' := by
  obtain ⟨h1, h2, h3, h4, h5, h6⟩ := h
  refine ⟨by omega, by rw [List.length_append, List.length_singleton]; omega, by omega, fun z hz => ?_, h5, hc⟩
  obtain ⟨z1, z2, z3, z4⟩ := h4 z hz
  exact ⟨z1, z2, z3, fun w => by have := z4 w; rw [List.length_append, List.length_singleton]; omega⟩
/-- a leaf -/
theorem m_leaf (d : Nat) {iv : Nat → Nat → Int32} {lv : Nat → Nat → Int64} {i : Nat} {C P : Cd} {o c x y : Nat} (h : stM q b n iv lv i C P o c) (s : Bool) (hs : s = true → tkF b n i ≠ 9999) : (s = true ∧ c < 50 → ∃ iv' lv', call X xT (d + 4) 252 [.inr (.inr (some 46)), .inl (b2i s), .inl (nI x), .inl (nI y)] (SS im lw tl, iv, lv) = some (none, (SS im lw tl, iv', lv')) ∧ stM q b n iv' lv' (i + 1) (C ++ [(x, y)]) P o (c + 1) ∧ frX iv iv' ∧ frO lv lv') ∧ (¬ (s = true ∧ c < 50) → ∀ y : Int32, ∃ iv', call X xT (d + 4) 252 [.inr (.inr (some 46)), .inl (b2i s), .inl (nI x), .inl y] (SS im lw tl, iv, lv) = some (none, (SS im lw tl, iv', lv)) ∧ stBad b n iv' i ∧ frX iv iv') := by
  have hc : iv 46 26 = nI c := h.2.1.2.2.2.2.2.2.2.2
  have hc50 := h.2.2.1.2.2.2.2.2
  refine ⟨fun hh => ?_, fun hh y => ?_⟩
  · obtain ⟨h1, h2⟩ := hh
    subst h1
    have hi := stM_lt h (hs rfl)
    obtain ⟨iv1, lv1, a1, a2, a3, a4⟩ := m_must1 (X := X) (im := im) (lw := lw) (tl := tl) d h (hs rfl)
    rw [tr252, if_neg (show ¬ b2i true = 0 by decide), hc, if_neg (nI_ge h2 (by omega)), a1, bV_some, sg252_22, a2.2.1.1, if_pos n0z]
    have pe := pInv_em (x := x) (y := y) (c' := c + 1) h.2.2.1 hi (by omega)
    obtain ⟨iv2, b1, b2, b3, b4⟩ := m_emt (X := X) (im := im) (lw := lw) (tl := tl) (d + 2) (x := x) (y := y) (c' := c + 1) a2 pe
    have hc2 : iv2 46 26 = nI c := b3.2.2.2.2.2.2.2.2
    rw [b1, bV_some, sg252_35, hc2, nI_add]
    obtain ⟨s1, s2, s3, s4, s5, s6, s7, s8, s9⟩ := b3
    refine ⟨_, lv1, rfl, ⟨lexM_P b2 (fun a k hk => upd2_ne _ _ _ _ (by omega)), ⟨by rw [upd2_ne _ _ _ _ (by decide)]; exact s1, by rw [upd2_ne _ _ _ _ (by decide)]; exact s2, by rw [upd2_ne _ _ _ _ (by decide)]; exact s3, fun k z hz => ?_, by rw [upd2_ne _ _ _ _ (by decide)]; exact s5, by rw [upd2_ne _ _ _ _ (by decide)]; exact s6, plM_fr P.length (fun k _ => ⟨by rw [upd2_off _ _ _ _ (by decide)], by rw [upd2_off _ _ _ _ (by decide)]⟩) P (Nat.le_refl _) s7, by rw [upd2_ne _ _ _ _ (by decide)]; exact s8, by rw [upd2_self]⟩, pe, a2.2.2.2⟩, (a3.tr b4).tr (frX_u _ _ (by omega)), a4⟩
    rw [upd2_off _ _ _ _ (by decide), upd2_off _ _ _ _ (by decide)]; exact s4 k z hz
  · obtain ⟨b1, b2⟩ := stBad_of h
    have m0 := m_must0 (X := X) (im := im) (lw := lw) (tl := tl) (d + 2) lv h.2.1.1
    refine ⟨_, ?_, b1, b2⟩
    rw [tr252]
    cases s with
    | false => rw [if_pos (show b2i false = 0 by decide), m0, bV_some, sg252_22, b1.1, if_neg n1z]
    | true =>
      have : ¬ c < 50 := fun z => hh ⟨rfl, z⟩
      rw [if_neg (show ¬ b2i true = 0 by decide), hc, if_pos (nI_le (by omega) (by omega)), m0, bV_some, sg252_22, b1.1, if_neg n1z]
/-- a number within bounds -/
theorem m_numIn (d : Nat) {iv : Nat → Nat → Int32} {lv : Nat → Nat → Int64} {i : Nat} {C P : Cd} {o c lo hi : Nat} (hlo : lo ≤ 1000) (hhi : hi ≤ 1000) (h : stM q b n iv lv i C P o c) : (∀ v, numT (tkF b n i) = some v → lo ≤ v → v ≤ hi → ∃ iv' lv', call X xT (d + 4) 254 [.inr (.inr (some 46)), .inr (.inl (lN lo)), .inr (.inl (lN hi))] (SS im lw tl, iv, lv) = some (some (.inl (nI v)), (SS im lw tl, iv', lv')) ∧ stM q b n iv' lv' (i + 1) C P o c ∧ frX iv iv' ∧ frO lv lv') ∧ ((∀ v, numT (tkF b n i) = some v → ¬ (lo ≤ v ∧ v ≤ hi)) → ∃ iv' x, call X xT (d + 4) 254 [.inr (.inr (some 46)), .inr (.inl (lN lo)), .inr (.inl (lN hi))] (SS im lw tl, iv, lv) = some (some (.inl x), (SS im lw tl, iv', lv)) ∧ stBad b n iv' i ∧ frX iv iv') := by
  have dg := m_dig h.1
  refine ⟨fun v hv h1 h2 => ?_, fun hv => ?_⟩
  · rcases dg with ⟨u, g1, g2, g3, g4⟩ | ⟨g1, -⟩
    · rw [hv] at g1; injection g1 with g1; subst g1
      have ht : tkF b n i ≠ 9999 := by have := (numT_ok hv).2; omega
      obtain ⟨iv1, lv1, a1, a2, a3, a4⟩ := m_must1 (X := X) (im := im) (lw := lw) (tl := tl) d h ht
      rw [tr254, g2, if_pos rfl, g3, m_in X (d + 2), bI_some, sg254_25, b2i_ite, if_pos (decide_eq_true ⟨(lN_le (by omega) (by omega)).mpr h1, (lN_le (by omega) (by omega)).mpr h2⟩), a1, bV_some, sg254_36, lN_i]
      exact ⟨iv1, lv1, rfl, a2, a3, a4⟩
    · rw [hv] at g1; cases g1
  · obtain ⟨b1, b2⟩ := stBad_of h
    have m0 := m_must0 (X := X) (im := im) (lw := lw) (tl := tl) (d + 2) lv h.2.1.1
    refine ⟨_, (lv 46 17).toInt32, ?_, b1, b2⟩
    rw [tr254]
    rcases dg with ⟨u, g1, g2, g3, g4⟩ | ⟨g1, g2 | ⟨g2, u, g3, g4, g5⟩⟩
    · have := hv u g1
      rw [g2, if_pos rfl, g3, m_in X (d + 2), bI_some, sg254_25, b2i_ite, if_neg (by rw [decide_eq_false (fun z => this ⟨(lN_le (by omega) (by omega)).mp z.1, (lN_le (by omega) (by omega)).mp z.2⟩)]; decide), m0, bV_some, sg254_36]
    · rw [if_neg g2, m0, bV_some, sg254_36]
    · rw [g2, if_pos rfl, g3, m_in X (d + 2), bI_some, sg254_25, b2i_ite, if_neg (by rw [decide_eq_false (fun z => by have := (lN_le (by omega) (by omega)).mp z.2; omega)]; decide), m0, bV_some, sg254_36]
/-- what both make of the token -/
theorem leaf_eq (q : Bool) (tk : Nat → Nat) (c i : Nat) (ht : tk i ≤ 4000 ∨ tk i = 9999) : (50 ≤ c ∧ pLeaf q tk c i = .inl i) ∨ (c < 50 ∧ ((∃ v, numT (tk i) = some v ∧ itN q (tk i) = none ∧ pLeaf q tk c i = .inr (eNum v, c + 1, i + 1)) ∨ (numT (tk i) = none ∧ itN q (tk i) = none ∧ pLeaf q tk c i = .inl i) ∨ (∃ k z, numT (tk i) = none ∧ itN q (tk i) = some z ∧ (q = true → z < 4) ∧ mwF q k = (z, 0) ∧ 1 ≤ z ∧ z ≤ 10 ∧ pLeaf q tk c i = .inr (eWrd q k, c + 1, i + 1)) ∨ (∃ m z, numT (tk i) = none ∧ q = true ∧ itN q (tk i) = some z ∧ manT (tk i) = some m ∧ 4 ≤ z ∧ z ≤ 7 ∧ m.2 = (if z < 6 then 6 else 4) ∧ (∀ v, v < m.2 → mwF q (m.1 + v) = (z, v)) ∧ pLeaf q tk c i = match numT (tk (i + 1)) with
      | none => .inl (i + 1)
      | some v => if v < m.2 then .inr (eWrd q (m.1 + v), c + 1, i + 2) else .inl (i + 1)))) := by
  unfold pLeaf
  by_cases c5 : 50 ≤ c
  · rw [if_pos c5]; exact Or.inl ⟨c5, rfl⟩
  rw [if_neg c5]
  refine Or.inr ⟨by omega, ?_⟩
  cases hn : numT (tk i) with
  | some v =>
    obtain ⟨v1, v2⟩ := numT_ok hn
    refine Or.inl ⟨v, rfl, ?_, rfl⟩
    unfold itN
    cases q
    · rw [if_neg (by decide), if_neg (by omega)]
    · rw [if_pos rfl, if_neg (by omega), if_neg (by omega), if_neg (by omega), if_neg (by omega), if_neg (by omega), if_neg (by omega), if_neg (by omega)]
  | none =>
    refine Or.inr ?_
    simp only
    cases q with
    | false =>
      rw [if_neg (by decide)]
      by_cases h : 3000 ≤ tk i ∧ tk i ≤ 3009
      · rw [if_pos h]
        refine Or.inr (Or.inl ⟨tk i - 3000, tk i - 2999, (by first | rfl | trivial), by unfold itN; rw [if_neg (by decide), if_pos h], fun z => (by cases z), ?_, by omega, by omega, rfl⟩)
        show (tk i - 3000 + 1, 0) = (tk i - 2999, 0)
        rw [show tk i - 3000 + 1 = tk i - 2999 by omega]
      · rw [if_neg h]
        exact Or.inl ⟨(by first | rfl | trivial), by unfold itN; rw [if_neg (by decide), if_neg h], rfl⟩
    | true =>
      rw [if_pos rfl]
      unfold itN
      rw [if_pos rfl]
      by_cases e1 : tk i = 3008
      · rw [e1]
        exact Or.inr (Or.inl ⟨0, 1, (by first | rfl | trivial), rfl, fun _ => by omega, rfl, by omega, by omega, rfl⟩)
      by_cases e2 : tk i = 3010
      · rw [e2]
        exact Or.inr (Or.inl ⟨1, 2, (by first | rfl | trivial), rfl, fun _ => by omega, rfl, by omega, by omega, rfl⟩)
      by_cases e3 : tk i = 3011
      · rw [e3]
        exact Or.inr (Or.inl ⟨2, 3, (by first | rfl | trivial), rfl, fun _ => by omega, rfl, by omega, by omega, rfl⟩)
      have ha : aloT (tk i) = none := by unfold aloT; rw [if_neg e1, if_neg e2, if_neg e3]
      rw [ha]
      simp only
      by_cases e4 : tk i = 3002
      · rw [e4]
        exact Or.inr (Or.inr ⟨(3, 6), 4, (by first | rfl | trivial), (by first | rfl | trivial), rfl, rfl, by omega, by omega, rfl, fun v hv => by have hv : v < 6 := hv; show mwO (3 + v) = (4, v); unfold mwO; rw [if_neg (by omega), if_pos (by omega), show 3 + v - 3 = v by omega], rfl⟩)
      by_cases e5 : tk i = 3003
      · rw [e5]
        exact Or.inr (Or.inr ⟨(9, 6), 5, (by first | rfl | trivial), (by first | rfl | trivial), rfl, rfl, by omega, by omega, rfl, fun v hv => by have hv : v < 6 := hv; show mwO (9 + v) = (5, v); unfold mwO; rw [if_neg (by omega), if_neg (by omega), if_pos (by omega), show 9 + v - 9 = v by omega], rfl⟩)
      by_cases e6 : tk i = 3006
      · rw [e6]
        exact Or.inr (Or.inr ⟨(15, 4), 6, (by first | rfl | trivial), (by first | rfl | trivial), rfl, rfl, by omega, by omega, rfl, fun v hv => by have hv : v < 4 := hv; show mwO (15 + v) = (6, v); unfold mwO; rw [if_neg (by omega), if_neg (by omega), if_neg (by omega), if_pos (by omega), show 15 + v - 15 = v by omega], rfl⟩)
      by_cases e7 : tk i = 3012
      · rw [e7]
        exact Or.inr (Or.inr ⟨(19, 4), 7, (by first | rfl | trivial), (by first | rfl | trivial), rfl, rfl, by omega, by omega, rfl, fun v hv => by have hv : v < 4 := hv; show mwO (19 + v) = (7, v); unfold mwO; rw [if_neg (by omega), if_neg (by omega), if_neg (by omega), if_neg (by omega), show 19 + v - 19 = v by omega], rfl⟩)
      have hm : manT (tk i) = none := by unfold manT; rw [if_neg e4, if_neg e5, if_neg e6, if_neg e7]
      rw [hm, if_neg e7, if_neg e6, if_neg e5, if_neg e4, if_neg e3, if_neg e2, if_neg e1]
      exact Or.inl ⟨(by first | rfl | trivial), rfl, rfl⟩
end mt
