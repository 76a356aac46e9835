/-! the reference's reading: readPart, readPlain -/
section mr
variable {X : XE} {im lw : List (Option Nat)} {tl : List XC} {q : Bool} {b : Nat → Nat} {n : Nat}
theorem tk_le {iv : Nat → Nat → Int32} {lv : Nat → Nat → Int64} {i : Nat} {C P : Cd} {o c : Nat} (h : stM q b n iv lv i C P o c) : tkF b n i ≤ 4000 ∨ tkF b n i = 9999 := by
  rcases Nat.lt_or_ge i (ntF b n) with z | z
  · exact Or.inl (tkF_lt h.1.1.2.2.2 z)
  · exact Or.inr (by rw [show i = ntF b n by have := h.2.2.1.1; omega]; exact tkF_end b n)
/-- digits or not -/
theorem m_35 (cl : XCl) {iv : Nat → Nat → Int32} {lv : Nat → Nat → Int64} {i : Nat} (h : lexM b n i iv lv) (u : Int32) : run X cl false 1 xc249 35 [some (.inr (.inr (some 46))), none, none, none] [.inl u] (SS im lw tl, iv, lv) = run X cl false 1 xc249 60 [some (.inr (.inr (some 46))), some (.inl u), none, none] [.inl (b2i (numT (tkF b n i)).isSome)] (SS im lw tl, iv, lv) := by
  rw [sg249_35]
  rcases m_dig h with ⟨v, g1, g2, g3, g4⟩ | ⟨g1, g2 | ⟨g2, v, g3, g4, g5⟩⟩
  · rw [g1, g2, if_pos rfl, g3, if_neg (fun z => by rw [lg_cmp_gt, lN_lt (by omega) (by omega)] at z; omega)]; rfl
  · rw [g1, if_neg g2, sg249_59]; rfl
  · rw [g1, g2, if_pos rfl, g3, if_pos (by rw [lg_cmp_gt, lN_lt (by omega) (by omega)]; omega), sg249_59]; rfl
theorem m_part (d : Nat) {iv : Nat → Nat → Int32} {lv : Nat → Nat → Int64} {i : Nat} {C P : Cd} {o c : Nat} (h : stM q b n iv lv i C P o c) : moP im lw tl q b n iv lv (rPart q (tkF b n) i C P o c) (call X xT (d + 5) 249 [.inr (.inr (some 46))] (SS im lw tl, iv, lv)) := by
  rw [tr249, m_isS X im lw tl (d + 3) h.1 (c := 91) (by omega) (by decide), bI_some, sg249_6, b2i_ite]
  unfold rPart
  by_cases e : tkF b n i = 91
  · rw [if_pos (decide_eq_true e), if_pos e]
    obtain ⟨m1, m2⟩ := m_open (X := X) (im := im) (lw := lw) (tl := tl) d (x := 32) (Or.inr rfl) h (by omega)
    by_cases o8 : o < 8
    · rw [if_pos o8]
      obtain ⟨iv', lv', a1, a2, a3, a4⟩ := m1 o8
      rw [a1, bV_some, sg249_15]
      exact ⟨iv', lv', rfl, a2, a3, a4⟩
    · rw [if_neg o8]
      obtain ⟨iv', a1, a2, a3⟩ := m2 o8
      rw [a1, bV_some, sg249_15]
      exact ⟨iv', lv, _, rfl, a2, a3, frO.rf⟩
  rw [if_neg (show ¬ decide (tkF b n i = 91) = true by rw [decide_eq_false e]; decide), if_neg e]
  have h20 : iv 46 20 = b2i q := h.2.1.2.2.1
  -- its number
  have hits : ∀ T, T = (if iv 46 20 = 0 then bI (call X xT (d + 4) 251 [.inr (.inr (some 46))] (SS im lw tl, iv, lv)) (fun r2 h1 => run X (call X xT (d + 4)) false 1 xc249 35 [some (.inr (.inr (some 46))), none, none, none] [.inl r2] h1) else bI (call X xT (d + 4) 250 [.inr (.inr (some 46))] (SS im lw tl, iv, lv)) (fun r4 h3 => run X (call X xT (d + 4)) false 1 xc249 28 [some (.inr (.inr (some 46))), none, none, none] [.inl r4] h3)) → T = run X (call X xT (d + 4)) false 1 xc249 60 [some (.inr (.inr (some 46))), some (.inl (itI (itN q (tkF b n i)))), none, none] [.inl (b2i (numT (tkF b n i)).isSome)] (SS im lw tl, iv, lv) := by
    intro T hT
    rw [hT, h20]
    cases q with
    | false => rw [if_pos (show b2i false = 0 by decide), m_partAt (d + 2) h.1 h.2.2.2, bI_some, m_35 _ h.1, itI_l]
    | true => rw [if_neg (show ¬ b2i true = 0 by decide), m_ordAt (d + 2) h.1 h.2.2.2, bI_some, sg249_28, m_35 _ h.1, itI_o]
  rw [hits _ rfl]
  -- up to the leaf
  have h60 : ∀ (z : Option Nat) (dg : Bool), (∀ w, z = some w → 1 ≤ w ∧ w ≤ 10) → run X (call X xT (d + 4)) false 1 xc249 60 [some (.inr (.inr (some 46))), some (.inl (itI z)), none, none] [.inl (b2i dg)] (SS im lw tl, iv, lv) = bV (call X xT (d + 4) 252 [.inr (.inr (some 46)), .inl (b2i (z.isSome || dg)), .inl (nI (z.getD 0)), .inl (if dg = true then (lv 46 17).toInt32 else nI 0)] (SS im lw tl, iv, lv)) (fun h1 => run X (call X xT (d + 4)) false 1 xc249 102 [some (.inr (.inr (some 46))), some (.inl (itI z)), some (.inl (b2i dg)), none] [] h1) := by
    intro z dg hz
    rw [sg249_60]
    cases z with
    | none =>
      rw [if_pos (show itI none = -1 from rfl)]
      cases dg with
      | false => rw [if_pos (show b2i false = 0 by decide), sg249_76, if_pos (show itI none = -1 from rfl), sg249_86, if_pos (show b2i false = 0 by decide), sg249_99]; rfl
      | true => rw [if_neg (show ¬ b2i true = 0 by decide), sg249_71, sg249_76, if_pos (show itI none = -1 from rfl), sg249_86, if_neg (show ¬ b2i true = 0 by decide), sg249_99]; rfl
    | some w =>
      obtain ⟨w1, w2⟩ := hz w rfl
      have nm : ¬ itI (some w) = -1 := nI_m1 (by omega)
      rw [if_neg nm, sg249_71, sg249_76, if_neg nm, sg249_86]
      cases dg with
      | false => rw [if_pos (show b2i false = 0 by decide), sg249_99]; rfl
      | true => rw [if_neg (show ¬ b2i true = 0 by decide), sg249_99]; rfl
  -- behind a leaf that failed
  have bad : ∀ (z : Option Nat) (dg : Int32) (iv' : Nat → Nat → Int32), stBad b n iv' i → frX iv iv' → ∃ iv2 lv2 v, run X (call X xT (d + 4)) false 1 xc249 102 [some (.inr (.inr (some 46))), some (.inl (itI z)), some (.inl dg), none] [] (SS im lw tl, iv', lv) = some (some (.inl v), (SS im lw tl, iv2, lv2)) ∧ stBad b n iv2 i ∧ frX iv iv2 ∧ frO lv lv2 := by
    intro z dg iv' hb hf
    refine ⟨iv', lv, nI 3, ?_, hb, hf, frO.rf⟩
    rw [sg249_102]
    by_cases c1 : iv' 46 20 = 0
    · rw [if_pos c1, sg249_154]
    · rw [if_neg c1]
      by_cases c2 : itI z < nI 4
      · rw [if_pos c2, sg249_154]
      · rw [if_neg c2, hb.1, if_neg n1z, sg249_154]
  rcases leaf_eq q (tkF b n) c i (tk_le h) with ⟨c5, hp⟩ | ⟨c5, ⟨v, hn, hz, hp⟩ | ⟨hn, hz, hp⟩ | ⟨k, z, hn, hz, hz4, hk, z1, z2, hp⟩ | ⟨m, z, hn, hq, hz, hman, z1, z2, hm2, hmw, hp⟩⟩
  · rw [hp, h60 _ _ (fun w hw => by
      unfold itN at hw
      cases q
      · rw [if_neg (by decide)] at hw
        split at hw
        · injection hw with hw; omega
        · cases hw
      · rw [if_pos rfl] at hw
        repeat' split at hw
        all_goals first
          | (injection hw with hw; omega)
          | cases hw)]
    obtain ⟨iv', a1, a2, a3⟩ := (m_leaf (X := X) (im := im) (lw := lw) (tl := tl) d (x := (itN q (tkF b n i)).getD 0) (y := 0) h ((itN q (tkF b n i)).isSome || (numT (tkF b n i)).isSome) (fun hs e9 => by
      rw [e9] at hs
      revert hs
      cases q <;> decide)).2 (fun z => by omega) (if (numT (tkF b n i)).isSome = true then (lv 46 17).toInt32 else nI 0)
    rw [a1, bV_some]
    exact bad _ _ iv' a2 a3
  · have dg := m_dig h.1
    rcases dg with ⟨u, g1, g2, g3, g4⟩ | ⟨g1, -⟩
    · rw [hn] at g1; injection g1 with g1; subst g1
      rw [hp, hz, hn, h60 none _ (fun w hw => by cases hw), g3, lN_i]
      obtain ⟨iv', lv', a1, a2, a3, a4⟩ := (m_leaf (X := X) (im := im) (lw := lw) (tl := tl) d (x := 0) (y := v) h true (fun _ => by have := (numT_ok hn).2; omega)).1 ⟨rfl, c5⟩
      have a1 : call X xT (d + 4) 252 [.inr (.inr (some 46)), .inl (b2i ((none : Option Nat).isSome || (some v).isSome)), .inl (nI ((none : Option Nat).getD 0)), .inl (if (some v).isSome = true then nI v else nI 0)] (SS im lw tl, iv, lv) = some (none, (SS im lw tl, iv', lv')) := a1
      rw [a1, bV_some, sg249_102, a2.2.1.2.2.1]
      refine ⟨iv', lv', ?_, a2, a3, a4⟩
      cases q
      · rw [if_pos (show b2i false = 0 by decide), sg249_154]
      · rw [if_neg (show ¬ b2i true = 0 by decide), if_pos (by decide), sg249_154]
    · rw [hn] at g1; cases g1
  · rw [hp, hz, hn, h60 none _ (fun w hw => by cases hw)]
    obtain ⟨iv', a1, a2, a3⟩ := (m_leaf (X := X) (im := im) (lw := lw) (tl := tl) d (x := 0) (y := 0) h false (fun z => by cases z)).2 (fun z => by cases z.1) (nI 0)
    have a1 : call X xT (d + 4) 252 [.inr (.inr (some 46)), .inl (b2i ((none : Option Nat).isSome || (none : Option Nat).isSome)), .inl (nI ((none : Option Nat).getD 0)), .inl (if (none : Option Nat).isSome = true then (lv 46 17).toInt32 else nI 0)] (SS im lw tl, iv, lv) = some (none, (SS im lw tl, iv', lv)) := a1
    rw [a1, bV_some]
    exact bad none _ iv' a2 a3
  · rw [hp, hz, hn, h60 (some z) _ (fun w hw => by injection hw with hw; omega)]
    have hw : tkF b n i ≠ 9999 := fun e9 => by
      rw [e9] at hz; revert hz
      cases q <;> (intro hz; cases hz)
    obtain ⟨iv', lv', a1, a2, a3, a4⟩ := (m_leaf (X := X) (im := im) (lw := lw) (tl := tl) d (x := z) (y := 0) h true (fun _ => hw)).1 ⟨rfl, c5⟩
    have a1 : call X xT (d + 4) 252 [.inr (.inr (some 46)), .inl (b2i ((some z).isSome || (none : Option Nat).isSome)), .inl (nI ((some z).getD 0)), .inl (if (none : Option Nat).isSome = true then (lv 46 17).toInt32 else nI 0)] (SS im lw tl, iv, lv) = some (none, (SS im lw tl, iv', lv')) := a1
    rw [a1, bV_some, sg249_102, a2.2.1.2.2.1]
    refine ⟨iv', lv', ?_, ?_, a3, a4⟩
    · cases q
      · rw [if_pos (show b2i false = 0 by decide), sg249_154]
      · rw [if_neg (show ¬ b2i true = 0 by decide), if_pos (show itI (some z) < nI 4 from nI_lt (hz4 rfl) (by omega)), sg249_154]
    · show stM q b n iv' lv' (i + 1) (C ++ [mwF q k]) P o (c + 1)
      rw [hk]; exact a2
  · subst hq
    rw [hp, hz, hn, h60 (some z) _ (fun w hw => by injection hw with hw; omega)]
    have hw : tkF b n i ≠ 9999 := (manT_ok hman).2.2
    obtain ⟨iv', lv', a1, a2, a3, a4⟩ := (m_leaf (X := X) (im := im) (lw := lw) (tl := tl) d (x := z) (y := 0) h true (fun _ => hw)).1 ⟨rfl, c5⟩
    have a1 : call X xT (d + 4) 252 [.inr (.inr (some 46)), .inl (b2i ((some z).isSome || (none : Option Nat).isSome)), .inl (nI ((some z).getD 0)), .inl (if (none : Option Nat).isSome = true then (lv 46 17).toInt32 else nI 0)] (SS im lw tl, iv, lv) = some (none, (SS im lw tl, iv', lv')) := a1
    have h23 : iv' 46 23 = nI (C.length + 1) := by have := a2.2.1.2.2.2.2.1; rw [List.length_append, List.length_singleton] at this; exact this
    have hCl : C.length + 1 ≤ 400 := by
      have := (stM_cp a2).2.2.2.2.1
      rw [List.length_append, List.length_singleton] at this; omega
    rw [a1, bV_some, sg249_102, a2.2.1.2.2.1, if_neg (show ¬ b2i true = 0 by decide), if_neg (show ¬ itI (some z) < nI 4 from nI_nlt z1 (by omega)), a2.2.1.1, if_pos n0z, h23, pk_sub (by omega), show C.length + 1 - 1 = C.length by omega]
    -- the number that follows
    have go : ∀ hi, hi + 1 = m.2 → hi ≤ 5 → moP im lw tl true b n iv lv (match numT (tkF b n (i + 1)) with
        | none => .inl (i + 1)
        | some v => if v < m.2 then .inr (3, (i + 2, C ++ (eWrd true (m.1 + v)).2.1, P, o, c + 1)) else .inl (i + 1)) (run X (call X xT (d + 4)) false 1 xc249 150 [some (.inr (.inr (some 46))), some (.inl (itI (some z))), some (.inl (b2i false)), some (.inl (nI C.length))] [.inr (.inl (lN hi)), .inr (.inl (lN 0)), .inr (.inr (some 46)), .inl (nI C.length), .inr (.inr (some 58))] (SS im lw tl, iv', lv')) := by
      intro hi hh h5
      obtain ⟨n1, n2⟩ := m_numIn (X := X) (im := im) (lw := lw) (tl := tl) d (lo := 0) (hi := hi) (by omega) (by omega) a2
      rw [sg249_150]
      cases hnv : numT (tkF b n (i + 1)) with
      | none =>
        obtain ⟨iv2, x, b1, b2, b3⟩ := n2 (fun v hv => by rw [hnv] at hv; cases hv)
        rw [b1, bI_some, sg249_153, if_pos (inb_nI (by omega) (by omega)), sg249_154, nI_clamp (by omega)]
        obtain ⟨B1, B2, C2, P2, q1, q2, q3, q4, q5, q6⟩ := b2
        exact ⟨_, lv', _, rfl, ⟨by rw [upd2_off _ _ _ _ (by decide)]; exact B1, by rw [upd2_off _ _ _ _ (by decide)]; exact B2, C2, P2, by rw [upd2_off _ _ _ _ (by decide)]; exact q1, by rw [upd2_off _ _ _ _ (by decide)]; exact q2, plM_fr P2.length (fun k _ => ⟨by rw [upd2_off _ _ _ _ (by decide)], by rw [upd2_off _ _ _ _ (by decide)]⟩) P2 (Nat.le_refl _) q3, q4, q5, q6⟩, (a3.tr b3).tr (fun a k hk => upd2_ne _ _ _ _ (by omega)), a4⟩
      | some v =>
        simp only
        by_cases hv : v < m.2
        · rw [if_pos hv]
          obtain ⟨iv2, lv2, b1, b2, b3, b4⟩ := n1 v hnv (by omega) (by omega)
          rw [b1, bI_some, sg249_153, if_pos (inb_nI (by omega) (by omega)), sg249_154, nI_clamp (by omega)]
          obtain ⟨l1, ⟨s1, s2, s3, s4, s5, s6, s7, s8, s9⟩, l3, l4⟩ := b2
          refine ⟨_, lv2, rfl, ?_, (a3.tr b3).tr (fun a k hk => upd2_ne _ _ _ _ (by omega)), a4.tr b4⟩
          show stM true b n (upd2 iv2 58 C.length (nI v)) lv2 (i + 2) (C ++ [mwF true (m.1 + v)]) P o (c + 1)
          rw [hmw v hv]
          have el : (C ++ [(z, v)]).length = (C ++ [(z, 0)]).length := by rw [List.length_append, List.length_append]; rfl
          refine ⟨lexM_P l1 (fun a k hk => upd2_ne _ _ _ _ (by omega)), ⟨by rw [upd2_off _ _ _ _ (by decide)]; exact s1, by rw [upd2_off _ _ _ _ (by decide)]; exact s2, by rw [upd2_off _ _ _ _ (by decide)]; exact s3, fun k y hy => ?_, by rw [upd2_off _ _ _ _ (by decide), el]; exact s5, by rw [upd2_off _ _ _ _ (by decide)]; exact s6, plM_fr P.length (fun k _ => ⟨by rw [upd2_off _ _ _ _ (by decide)], by rw [upd2_off _ _ _ _ (by decide)]⟩) P (Nat.le_refl _) s7, by rw [upd2_off _ _ _ _ (by decide)]; exact s8, by rw [upd2_off _ _ _ _ (by decide)]; exact s9⟩, ?_, l4⟩
          · have e57 : (upd2 iv2 58 C.length (nI v)) 57 k = iv2 57 k := by rw [upd2_off _ _ _ _ (by decide)]
            rw [e57]
            by_cases ek : k = C.length
            · subst ek
              rw [List.getElem?_append_right (by omega), Nat.sub_self] at hy
              injection hy with hy
              rw [upd2_self, ← hy]
              exact ⟨(s4 C.length (z, 0) (by rw [List.getElem?_append_right (by omega), Nat.sub_self]; rfl)).1, rfl⟩
            · rw [upd2_ne _ _ _ _ (fun w => ek w.2)]
              refine s4 k y ?_
              have hk : k < (C ++ [(z, v)]).length := (List.getElem?_eq_some_iff.mp hy).1
              rw [List.length_append, List.length_singleton] at hk
              rw [List.getElem?_append_left (by omega)] at hy ⊢
              exact hy
          · obtain ⟨p1, p2, p3, p4, p5, p6⟩ := l3
            refine ⟨p1, by rw [el]; exact p2, p3, fun y hy => ?_, p5, p6⟩
            rw [el]; exact p4 y hy
        · rw [if_neg hv]
          obtain ⟨iv2, x, b1, b2, b3⟩ := n2 (fun w hw => by rw [hnv] at hw; injection hw with hw; omega)
          rw [b1, bI_some, sg249_153, if_pos (inb_nI (by omega) (by omega)), sg249_154, nI_clamp (by omega)]
          obtain ⟨B1, B2, C2, P2, q1, q2, q3, q4, q5, q6⟩ := b2
          exact ⟨_, lv', _, rfl, ⟨by rw [upd2_off _ _ _ _ (by decide)]; exact B1, by rw [upd2_off _ _ _ _ (by decide)]; exact B2, C2, P2, by rw [upd2_off _ _ _ _ (by decide)]; exact q1, by rw [upd2_off _ _ _ _ (by decide)]; exact q2, plM_fr P2.length (fun k _ => ⟨by rw [upd2_off _ _ _ _ (by decide)], by rw [upd2_off _ _ _ _ (by decide)]⟩) P2 (Nat.le_refl _) q3, q4, q5, q6⟩, (a3.tr b3).tr (fun a k hk => upd2_ne _ _ _ _ (by omega)), a4⟩
    have fin : ∀ T, (∃ hi, hi + 1 = m.2 ∧ hi ≤ 5 ∧ T = run X (call X xT (d + 4)) false 1 xc249 150 [some (.inr (.inr (some 46))), some (.inl (itI (some z))), some (.inl (b2i false)), some (.inl (nI C.length))] [.inr (.inl (lN hi)), .inr (.inl (lN 0)), .inr (.inr (some 46)), .inl (nI C.length), .inr (.inr (some 58))] (SS im lw tl, iv', lv')) → moP im lw tl true b n iv lv (match (match numT (tkF b n (i + 1)) with
        | none => (.inl (i + 1) : Rd Ex)
        | some v => if v < m.2 then .inr (eWrd true (m.1 + v), c + 1, i + 2) else .inl (i + 1)) with
        | .inl e => .inl e
        | .inr r => .inr (3, (r.2.2, C ++ r.1.2.1, P, o, r.2.1))) T := by
      rintro T ⟨hi, h1, h2, rfl⟩
      have g := go hi h1 h2
      cases hnv : numT (tkF b n (i + 1)) with
      | none => rw [hnv] at g; exact g
      | some v =>
        rw [hnv] at g
        simp only at g ⊢
        by_cases hv : v < m.2
        · rw [if_pos hv] at g ⊢; exact g
        · rw [if_neg hv] at g ⊢; exact g
    refine fin _ ?_
    by_cases z6 : z < 6
    · rw [if_pos z6] at hm2
      rw [if_neg (show ¬ (nI 6 : Int32) ≤ itI (some z) from nI_ge z6 (by omega))]
      exact ⟨5, by omega, by omega, rfl⟩
    · rw [if_neg z6] at hm2
      rw [if_pos (show (nI 6 : Int32) ≤ itI (some z) from nI_le (by omega) (by omega))]
      exact ⟨3, by omega, by omega, rfl⟩
end mr
