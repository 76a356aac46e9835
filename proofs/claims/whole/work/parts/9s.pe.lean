/-! the class's parser: parts -/
def owV (tk : Nat → Nat) (i : Nat) : Int32 × Nat := match aloT (tk i) with
  | some k => (nI k, i)
  | none => match manT (tk i) with
    | none => (-1, i)
    | some m => match numT (tk (i + 1)) with
      | none => (-1, i + 1)
      | some v => (if v < m.2 then nI (m.1 + v) else -1, i + 1)
theorem inV_d {a b : Nat} (ha : a < 2 ^ 31) (hb : b < 2 ^ 31) : inV (nI a) (nI b) = decide (a ≤ b) := by
  unfold inV
  by_cases e : a ≤ b
  · rw [decide_eq_true e]; exact decide_eq_true ⟨nI_pos ha, nI_nlt e (by omega)⟩
  · rw [decide_eq_false e]; exact decide_eq_false (fun z => z.2 (nI_lt (by omega) (by omega)))
theorem inV_m1 (y : Int32) : inV (-1) y = false := by
  unfold inV
  exact decide_eq_false (fun z => z.1 (by decide))
section pe
variable {X : XE} {im lw : List (Option Nat)} {tl : List XC} {lv : Nat → Nat → Int64} {q : Bool} {tk pl : Nat → Nat} {nt : Nat}
theorem stC.nn {iv : Nat → Nat → Int32} {C : Cd} {c i : Nat} (h : stC q tk pl nt iv C c i) {w : Nat} (hw : w ≤ 4000) (e : tk i ≠ w) : ¬ iv 11 6 = nI w := fun z => e ((h.eq hw).mp z)
theorem c_ordT (d : Nat) {iv : Nat → Nat → Int32} {C : Cd} {c i : Nat} (h : stC q tk pl nt iv C c i) {w : Nat} (hw : w ≤ 4000) (e : tk i = w) {a b : Nat} (hb : 1 ≤ b) (hb6 : b ≤ 6) (ha : a ≤ 19) : ∃ iv', bV (call X xT (d + 1) 87 [.inr (.inr (some 11))] (SS im lw tl, iv, lv)) (fun h7 => run X (call X xT (d + 1)) false 1 xc94 150 [some (.inr (.inr (some 11))), some (.inl (-1)), some (.inl (nI b)), some (.inl (nI a)), none] [] h7) = some (some (.inl (match numT (tk (i + 1)) with
      | none => -1
      | some v => if v < b then nI (a + v) else -1)), (SS im lw tl, iv', lv)) ∧ stC q tk pl nt iv' C c (i + 1) ∧ frE iv iv' := by
  obtain ⟨iv1, a1, a2, a3⟩ := c_next X im lw tl lv d h (h.lt hw e)
  refine ⟨iv1, ?_, a2, a3⟩
  have ht := a2.t
  rw [a1, bV_some, sg94_150, a2.2.2.2.2.1, c_numOf X im lw tl lv d iv1 ht, bI_some, sg94_157, pk_sub hb, c_within X d, bI_some, sg94_167, b2i_ite]
  unfold nO numT
  generalize tk (i + 1) = t at ht ⊢
  by_cases h1 : 256 ≤ t ∧ t < 2000
  · rw [if_pos h1, inV_d (by omega) (by omega), nI_add]
    by_cases h2 : t ≤ 1256
    · rw [if_pos (show 256 ≤ t ∧ t ≤ 1256 by omega)]
      simp only
      by_cases h3 : t - 256 < b
      · rw [if_pos (decide_eq_true (by omega)), if_pos h3]
      · rw [if_neg (by rw [decide_eq_false (by omega)]; decide), if_neg h3]
    · rw [if_neg (show ¬ (256 ≤ t ∧ t ≤ 1256) by omega), if_neg (by rw [decide_eq_false (by omega)]; decide)]
  · rw [if_neg h1, inV_m1, if_neg (by decide), if_neg (show ¬ (256 ≤ t ∧ t ≤ 1256) by omega)]
theorem c_ordW (d : Nat) {iv : Nat → Nat → Int32} {C : Cd} {c i : Nat} (h : stC q tk pl nt iv C c i) : ∃ iv', call X xT (d + 2) 94 [.inr (.inr (some 11))] (SS im lw tl, iv, lv) = some (some (.inl (owV tk i).1), (SS im lw tl, iv', lv)) ∧ stC q tk pl nt iv' C c (owV tk i).2 ∧ frE iv iv' := by
  have yes : ∀ {w : Nat}, w ≤ 4000 → tk i = w → iv 11 6 = nI w := fun hw e => (h.eq hw).mpr e
  have alo : ∀ k, aloT (tk i) = some k → owV tk i = (nI k, i) := fun k hk => by unfold owV; rw [hk]
  have man : ∀ m, aloT (tk i) = none → manT (tk i) = some m → owV tk i = ((match numT (tk (i + 1)) with
      | none => -1
      | some v => if v < m.2 then nI (m.1 + v) else -1), i + 1) := fun m h1 h2 => by
    unfold owV; rw [h1, h2]; simp only
    cases numT (tk (i + 1)) <;> rfl
  rw [tr94]
  by_cases e1 : tk i = 3008
  · rw [if_pos (yes (by omega) e1), alo 0 (by rw [e1]; rfl)]; exact ⟨iv, rfl, h, frE.rf⟩
  rw [if_neg (h.nn (by omega) e1)]
  by_cases e2 : tk i = 3010
  · rw [if_pos (yes (by omega) e2), alo 1 (by rw [e2]; rfl)]; exact ⟨iv, rfl, h, frE.rf⟩
  rw [if_neg (h.nn (by omega) e2)]
  by_cases e3 : tk i = 3011
  · rw [if_pos (yes (by omega) e3), alo 2 (by rw [e3]; rfl)]; exact ⟨iv, rfl, h, frE.rf⟩
  rw [if_neg (h.nn (by omega) e3)]
  have a0 : aloT (tk i) = none := by unfold aloT; rw [if_neg e1, if_neg e2, if_neg e3]
  by_cases e4 : tk i = 3002
  · rw [if_pos (yes (by omega) e4), if_pos (yes (by omega) e4), man (3, 6) a0 (by rw [e4]; rfl)]
    exact c_ordT d h (by omega) e4 (by omega) (by omega) (by omega)
  rw [if_neg (h.nn (by omega) e4)]
  by_cases e5 : tk i = 3003
  · rw [if_pos (yes (by omega) e5), if_neg (h.nn (by omega) e4), if_pos (yes (by omega) e5), man (9, 6) a0 (by rw [e5]; rfl)]
    exact c_ordT d h (by omega) e5 (by omega) (by omega) (by omega)
  rw [if_neg (h.nn (by omega) e5), if_neg (h.nn (by omega) e4), if_neg (h.nn (by omega) e5)]
  by_cases e6 : tk i = 3006
  · rw [if_pos (yes (by omega) e6), man (15, 4) a0 (by rw [e6]; rfl)]
    exact c_ordT d h (by omega) e6 (by omega) (by omega) (by omega)
  rw [if_neg (h.nn (by omega) e6)]
  by_cases e7 : tk i = 3012
  · rw [if_pos (yes (by omega) e7), man (19, 4) a0 (by rw [e7]; rfl)]
    exact c_ordT d h (by omega) e7 (by omega) (by omega) (by omega)
  rw [if_neg (h.nn (by omega) e7)]
  have : owV tk i = (-1, i) := by
    unfold owV; rw [a0]; simp only
    rw [show manT (tk i) = none by unfold manT; rw [if_neg e4, if_neg e5, if_neg e6, if_neg e7]]
  rw [this]
  exact ⟨iv, rfl, h, frE.rf⟩
/-- a part counted -/
theorem stC.cnt {iv : Nat → Nat → Int32} {C : Cd} {c i : Nat} (h : stC q tk pl nt iv C c i) (hc : c < 50) : stC q tk pl nt (upd2 iv 11 7 (nI (c + 1))) C (c + 1) i ∧ frE iv (upd2 iv 11 7 (nI (c + 1))) := by
  obtain ⟨⟨t1, t2, t3, t4, t5⟩, h1, h2, h3, h4, h5, h6, h7, h8⟩ := h
  refine ⟨⟨⟨t1, t2, t3, fun j hj => ?_, ?_⟩, h1, by omega, ?_, ?_, ?_, ?_, h7, fun k x hx => ?_⟩, ⟨fr_upd _ _ _ (by simp), ?_⟩⟩
  · rw [upd2_off _ _ _ _ (by decide), upd2_off _ _ _ _ (by decide)]; exact t4 j hj
  · exact ⟨by rw [upd2_ne _ _ _ _ (by decide)]; exact t5.1, by rw [upd2_ne _ _ _ _ (by decide)]; exact t5.2⟩
  · rw [upd2_ne _ _ _ _ (by decide)]; exact h3
  · rw [upd2_ne _ _ _ _ (by decide)]; exact h4
  · rw [upd2_self]
  · rw [upd2_off _ _ _ _ (by decide)]; exact h6
  · rw [upd2_off _ _ _ _ (by decide)]; exact h8 k x hx
  · rw [upd2_off _ _ _ _ (by decide)]
/-- behind the part's value -/
theorem c_partV (m : Nat) {iv : Nat → Nat → Int32} {C : Cd} {c i : Nat} (h : stC q tk pl nt iv C c i) (dp : Int32) (v2 : Int32) {top o : Nat} (ht : top ≤ 1000) (ho : o < 16) (hz : tk i ≤ 4000) : (inV v2 (nI top) = false → poC im lw tl lv q tk pl nt codE iv C (.inl i) (run X (call X xT (m + 2)) false 4 xc91 143 [some (.inr (.inr (some 11))), some (.inl dp), some (.inl v2), some (.inl (nI top)), some (.inl (nI o))] [] (SS im lw tl, iv, lv))) ∧ (∀ v : Nat, v ≤ top → v2 = nI v → C.length + 1 ≤ i → ∃ iv', run X (call X xT (m + 2)) false 4 xc91 143 [some (.inr (.inr (some 11))), some (.inl dp), some (.inl v2), some (.inl (nI top)), some (.inl (nI o))] [] (SS im lw tl, iv, lv) = some (some (.inl (nI 1)), (SS im lw tl, iv', lv)) ∧ stC q tk pl nt iv' (C ++ [(o, v)]) c (i + 1) ∧ frE iv iv') := by
  refine ⟨fun hv => ?_, fun v hv e hl => ?_⟩
  · rw [sg91_143, c_within X (m + 1), bI_some, sg91_148, b2i_ite, hv, if_neg (by decide)]
    exact poC_f (m := m + 1) h (fun iv' => by rw [sg91_155, if_pos (by decide)])
  · rw [sg91_143, c_within X (m + 1), bI_some, sg91_148, b2i_ite, e, inV_d (by omega) (by omega), if_pos (decide_eq_true hv)]
    obtain ⟨iv1, a1, a2, a3⟩ := c_emit X im lw tl lv (m + 1) h (o := o) (a := v) ho (by omega) hl
    obtain ⟨iv2, b1, b2, b3⟩ := c_next X im lw tl lv (m + 1) a2 (a2.lt hz rfl)
    rw [a1, bI_some, sg91_166, b1, bV_some, sg91_171]
    exact ⟨iv2, rfl, b2, a3.tr b3⟩
/-- a number or a word -/
theorem cp_leaf (m : Nat) {iv : Nat → Nat → Int32} {C : Cd} {c i : Nat} (h : stC q tk pl nt iv C c i) (hsl : C.length + 1 ≤ i) (h91 : tk i ≠ 91) (dp : Nat) : poC im lw tl lv q tk pl nt codE iv C (pLeaf q tk c i) (call X xT (m + 4) 91 [.inr (.inr (some 11)), .inl (nI dp)] (SS im lw tl, iv, lv)) := by
  have hc := h.2.2.1
  have hc7 : iv 11 7 = nI c := h.2.2.2.2.2.1
  rw [tr91, if_neg (h.nn (by omega) h91), hc7]
  unfold pLeaf
  by_cases c5 : 50 ≤ c
  · rw [if_pos c5, if_neg (nI_nlt (by omega) (by omega))]
    exact poC_f (m := m + 2) h (fun iv' => by rw [sg91_71, if_pos (by decide)])
  rw [if_neg c5, if_pos (nI_lt (by omega) (by omega)), nI_add]
  obtain ⟨hs, hf⟩ := h.cnt (by omega)
  generalize upd2 iv 11 7 (nI (c + 1)) = iv1 at hs hf ⊢
  have ht := h.t
  rw [h.2.2.2.2.1, c_numOf X im lw tl lv (m + 2) iv1 ht, bI_some, sg91_89]
  have h4 : iv1 11 4 = b2i q := hs.1.2.2.2.2.1
  -- what a value gives
  have val : ∀ (iv2 : Nat → Nat → Int32) (j : Nat) (v2 : Int32) (top o : Nat), stC q tk pl nt iv2 C (c + 1) j → frE iv iv2 → i ≤ j → top ≤ 1000 → o < 16 → (inV v2 (nI top) = false → poC im lw tl lv q tk pl nt codE iv C (.inl j) (run X (call X xT (m + 3)) false 4 xc91 143 [some (.inr (.inr (some 11))), some (.inl (nI dp)), some (.inl v2), some (.inl (nI top)), some (.inl (nI o))] [] (SS im lw tl, iv2, lv))) ∧ (∀ (v : Nat) (e : Ex), v ≤ top → v2 = nI v → tk j ≤ 4000 → e.1 = [(o, v)] → poC im lw tl lv q tk pl nt codE iv C (.inr (e, c + 1, j + 1)) (run X (call X xT (m + 3)) false 4 xc91 143 [some (.inr (.inr (some 11))), some (.inl (nI dp)), some (.inl v2), some (.inl (nI top)), some (.inl (nI o))] [] (SS im lw tl, iv2, lv))) := by
    intro iv2 j v2 top o g1 g2 g3 g4 g5
    refine ⟨fun hv => ?_, fun v e hv ev hz he => ?_⟩
    · rw [sg91_143, c_within X (m + 2), bI_some, sg91_148, b2i_ite, hv, if_neg (by decide)]
      exact (poC_f (m := m + 2) g1 (fun iv' => by rw [sg91_155, if_pos (by decide)])).tr g2
    · obtain ⟨iv3, b1, b2, b3⟩ := (c_partV (X := X) (im := im) (lw := lw) (tl := tl) (lv := lv) (m + 1) g1 (nI dp) v2 g4 g5 hz).2 v hv ev (by omega)
      exact ⟨iv3, b1, by show stC q tk pl nt iv3 (C ++ e.1) (c + 1) (j + 1); rw [he]; exact b2, g2.tr b3⟩
  unfold nO
  by_cases n1 : 256 ≤ tk i ∧ tk i < 2000
  · rw [if_pos n1, if_neg (nI_m1 (by omega))]
    obtain ⟨v1, v2⟩ := val iv1 i (nI (tk i - 256)) 1000 1 hs hf (by omega) (by omega) (by omega)
    unfold numT
    by_cases n2 : tk i ≤ 1256
    · rw [if_pos (show 256 ≤ tk i ∧ tk i ≤ 1256 by omega)]
      exact v2 (tk i - 256) (eNum (tk i - 256)) (by omega) rfl (by omega) rfl
    · rw [if_neg (show ¬ (256 ≤ tk i ∧ tk i ≤ 1256) by omega)]
      simp only
      have v1 := v1 (by rw [inV_d (by omega) (by omega)]; exact decide_eq_false (by omega))
      cases q with
      | true =>
        rw [if_pos rfl, show aloT (tk i) = none by unfold aloT; rw [if_neg (by omega), if_neg (by omega), if_neg (by omega)]]
        simp only
        rw [show manT (tk i) = none by unfold manT; rw [if_neg (by omega), if_neg (by omega), if_neg (by omega), if_neg (by omega)]]
        exact v1
      | false => rw [if_neg (by decide), if_neg (by omega)]; exact v1
  · rw [if_neg n1, if_pos rfl, h4, show numT (tk i) = none by unfold numT; exact if_neg (by omega)]
    simp only
    cases q with
    | true =>
      rw [if_neg (show ¬ b2i true = 0 by decide), if_pos rfl]
      obtain ⟨iv2, a1, a2, a3⟩ := c_ordW (X := X) (im := im) (lw := lw) (tl := tl) (lv := lv) (m + 1) hs
      have h42 : iv2 11 4 = b2i true := a2.1.2.2.2.2.1
      rw [a1, bI_some, sg91_113, sg91_124, h42, if_neg (show ¬ b2i true = 0 by decide), sg91_139]
      have ow : owV tk i = owV tk i := rfl
      unfold owV at a2 ⊢
      cases ha : aloT (tk i) with
      | some k =>
        rw [ha] at a2
        obtain ⟨k1, k2⟩ := aloT_ok ha
        have : tk i ≤ 4000 := by
          rcases Nat.lt_or_ge i nt with z | z
          · exact hs.1.2.2.1 i z
          · exact absurd (by rw [show i = nt by have := h.2.1; omega]; exact hs.1.2.1) k2
        exact (val iv2 i (nI k) 22 2 a2 (hf.tr a3) (by omega) (by omega) (by omega)).2 k (eWrd true k) (by omega) rfl this rfl
      | none =>
        rw [ha] at a2
        simp only at a2 ⊢
        cases hm : manT (tk i) with
        | none =>
          rw [hm] at a2
          exact (val iv2 i (-1) 22 2 a2 (hf.tr a3) (by omega) (by omega) (by omega)).1 (inV_m1 _)
        | some mm =>
          rw [hm] at a2
          obtain ⟨m1, m2, m3⟩ := manT_ok hm
          simp only at a2 ⊢
          cases hn : numT (tk (i + 1)) with
          | none =>
            rw [hn] at a2
            exact (val iv2 (i + 1) (-1) 22 2 a2 (hf.tr a3) (by omega) (by omega) (by omega)).1 (inV_m1 _)
          | some v =>
            rw [hn] at a2
            obtain ⟨w1, w2⟩ := numT_ok hn
            simp only at a2 ⊢
            by_cases hv : v < mm.2
            · rw [if_pos hv, if_pos hv]
              exact (val iv2 (i + 1) (nI (mm.1 + v)) 22 2 a2 (hf.tr a3) (by omega) (by omega) (by omega)).2 (mm.1 + v) (eWrd true (mm.1 + v)) (by omega) rfl (by omega) rfl
            · rw [if_neg hv, if_neg hv]
              exact (val iv2 (i + 1) (-1) 22 2 a2 (hf.tr a3) (by omega) (by omega) (by omega)).1 (inV_m1 _)
    | false =>
      rw [if_pos (show b2i false = 0 by decide), if_neg (by decide), sg91_124, h4, if_pos (show b2i false = 0 by decide), sg91_139]
      have e6 : iv1 11 6 = tI (tk i) := hs.2.2.2.2.1
      rw [e6]
      obtain ⟨v1, v2⟩ := val iv1 i (tI (tk i) - nI 3000) 9 2 hs hf (by omega) (by omega) (by omega)
      by_cases w : 3000 ≤ tk i ∧ tk i ≤ 3009
      · rw [if_pos w]
        have ew : tI (tk i) = nI (tk i) := by unfold tI; rw [if_neg (by omega)]
        exact v2 (tk i - 3000) (eWrd false (tk i - 3000)) (by omega) (by rw [ew, pk_sub (by omega)]) (by omega) rfl
      · rw [if_neg w]
        refine v1 ?_
        unfold tI inV
        refine decide_eq_false (fun z => ?_)
        obtain ⟨z1, z2⟩ := z
        by_cases e : tk i = 9999
        · rw [if_pos e] at z1; exact z1 (by decide)
        · rw [if_neg e] at z1 z2
          rcases Nat.lt_or_ge (tk i) 3000 with y | y
          · exact z1 (pk_sneg (by omega) y)
          · rw [pk_sub y] at z2
            exact z2 (nI_lt (by omega) (by omega))
theorem cp_part {N dp : Nat} (hN : 3 ≤ N) (hd : dp ≤ 8) {rec : Option (Nat → Nat → Rd Ex)} (h0 : rec = none → ¬ dp < 8) (h1 : ∀ f, rec = some f → dp < 8 ∧ CP X im lw tl q tk pl nt 89 N (dp + 1) codE f) : CP X im lw tl q tk pl nt 91 (N + 1) dp codE (partF q tk rec) := by
  intro n hn lv iv C c i h hsl
  obtain ⟨m, rfl⟩ : ∃ m, n = m + 4 := ⟨n - 4, by omega⟩
  unfold partF
  by_cases e : tk i = 91
  · rw [if_pos e, tr91, if_pos ((h.eq (by omega)).mpr e)]
    cases rec with
    | none =>
      rw [if_neg (nI_nlt (by have := h0 rfl; omega) (by omega))]
      exact poC_f (m := m + 2) h (fun iv' => by rw [sg91_19, if_pos (by decide)])
    | some f =>
      obtain ⟨d8, hf⟩ := h1 f rfl
      rw [if_pos (nI_lt d8 (by omega))]
      obtain ⟨iv1, a1, a2, a3⟩ := c_next X im lw tl lv (m + 2) h (h.lt (by omega) e)
      rw [a1, bV_some, sg91_24, nI_add]
      unfold shut
      refine poC.tr (poC_bI (hf (m + 3) (by omega) lv iv1 C c (i + 1) a2 (by omega)) (fun e iv' he hf hs hp => poC_0 hp hf hs (by rw [sg91_31, if_pos n0z])) (fun y c2 i2 iv' he hst hf => ?_)) a3
      obtain ⟨iv2, b1, b2, b3⟩ := c_takes X im lw tl lv (m + 1) hst (w := 93) (by omega)
      rw [sg91_31, if_neg n1z, b1, bI_some, sg91_42, b2i_ite]
      by_cases e3 : tk i2 = 93
      · rw [if_pos (decide_eq_true e3), sg91_52, sg91_57, if_pos e3, if_pos (by decide)]
        rw [if_pos e3] at b2
        exact ⟨iv2, rfl, b2, hf.tr b3⟩
      · rw [if_neg e3, if_neg (show ¬ decide (tk i2 = 93) = true by rw [decide_eq_false e3]; decide)]
        rw [if_neg e3] at b2
        exact (poC_f (m := m + 2) b2 (fun iv' => by rw [sg91_49, if_pos n0z, sg91_57, if_pos (by decide)])).tr (hf.tr b3)
  · rw [if_neg e]
    exact cp_leaf m h hsl e dp
theorem cp_sumF {N dp : Nat} (he : tk nt = 9999) (hN : 3 ≤ N) (hd : dp ≤ 8) {rec : Option (Nat → Nat → Rd Ex)} (hr : ∀ f, rec = some f → GF nt (oE q (wvF q)) f) (h0 : rec = none → ¬ dp < 8) (h1 : ∀ f, rec = some f → dp < 8 ∧ CP X im lw tl q tk pl nt 89 N (dp + 1) codE f) : CP X im lw tl q tk pl nt 89 (N + 3) dp codE (sumF q tk rec) := by
  have gp := GF_part he (wvF_ok q) hr
  have gt : GF nt (oE q (wvF q)) (rowF mulT eBin tk (partF q tk rec)) := GF_row he (by decide) (fun o t x y L1 L2 n1 n2 ho hx hy => oE_bin hx hy (by have := mulT_ok ho; omega) (by have := mulT_ok ho; omega)) gp
  exact cp_sum (by omega) gt (cp_term (by omega) gp (cp_part hN hd h0 h1))
theorem cp_sumB (he : tk nt = 9999) : ∀ b, b ≤ 8 → CP X im lw tl q tk pl nt 89 (6 + 3 * b) (8 - b) codE (pSum q tk b) := by
  intro b
  induction b with
  | zero => intro _; exact cp_sumF (N := 3) he (by omega) (by omega) (fun f h => by cases h) (fun _ => by omega) (fun f h => by cases h)
  | succ b ih =>
    intro hb
    rw [show 6 + 3 * (b + 1) = 6 + 3 * b + 3 by omega]
    refine cp_sumF (N := 6 + 3 * b) he (by omega) (by omega) (fun f h => by injection h with h; rw [← h]; exact GF_sum he (wvF_ok q) b) (fun h => by cases h) (fun f h => by
      injection h with h
      rw [← h, show 8 - (b + 1) + 1 = 8 - b by omega]
      exact ⟨by omega, ih (by omega)⟩)
end pe
