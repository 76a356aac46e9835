/-! calls: row -/
def bt (T : Nat × Sc) (i : Nat) : Int32 := if i < T.1 then T.2 i else -1
def canP (f : Sc) (x y b : Int32) : Bool := (inV x (nI 9) && inV y (nI 9) && inV b (nI 7)) && (!tubV f b (nP f) 0 && decide (nP f < 6))
def rowS1 (T : Nat × Sc) (i : Nat) (s : Sc × Int32 × Nat) : Sc × Int32 × Nat := if canP s.1 (bt T i) (bt T (i + 1)) (bt T (i + 2)) = true then (addPF s.1 (nP s.1) (bt T i) (bt T (i + 1)) (bt T (i + 2)), s.2.1, s.2.2 + 1) else (s.1, s.2.1 + nI 1, s.2.2)
def rowSt (T : Nat × Sc) : Nat → Nat → Sc × Int32 × Nat → Sc × Int32 × Nat
  | 0, _, s => s
  | m + 1, i, s => if T.1 ≤ i then s else rowSt T m (i + 3) (rowS1 T i s)
def stA (A : St) (v : Int32) : St := (A.1, A.2.1, A.2.2.1, A.2.2.2.1, A.2.2.2.2.1, (A.2.2.2.2.2.1, A.2.2.2.2.2.2.1, v, A.2.2.2.2.2.2.2.2.1, A.2.2.2.2.2.2.2.2.2))
/-- the state while rows come -/
def rowA (A : St) (s : Sc × Int32 × Nat) : St := stA (stU (stF A s.1) []) s.2.1
def sp_row (A : St) : Int32 × St := if A.2.2.1.1 = 0 then rfs 4 A else (nI (rowSt A.2.2.1 134 0 (A.1.1, nI 0, 0)).2.2, stS (stT (rowA A (rowSt A.2.2.1 134 0 (A.1.1, nI 0, 0))) (0, A.2.2.1.2)) (nI 0))
theorem canP_ok {f : Sc} (h : okF f) {x y b : Int32} (hc : canP f x y b = true) : okF (addPF f (nP f) x y b) ∧ nP f < 6 := by
  unfold canP at hc
  obtain ⟨c1, c2⟩ := Bool.and_eq_true_iff.mp hc
  obtain ⟨-, c3⟩ := Bool.and_eq_true_iff.mp c2
  have h6 := of_decide_eq_true c3
  exact ⟨okF_addP h h6 c1, h6⟩
theorem oka_row {A : St} (h : OKA A) {f : Sc} (hf : okF f) (h1 : nP A.1.1 ≤ nP f) (h2 : nT A.1.1 ≤ nT f) (v : Int32) : OKA (stA (stU (stF A f) []) v) := by
  obtain ⟨a1, a2, a3, a4, a5⟩ := h
  exact ⟨okW_f a1 hf h1 h2, a2, a3, okU_nil _, a5⟩
theorem relC_stA {A : St} {im lw : List (Option Nat)} {tl : List XC} {iv : Nat → Nat → Int32} (h : RelC A im lw tl iv) (v : Int32) : RelC (stA A v) im lw tl (upd2 iv 0 15 v) := by
  obtain ⟨h0, h1, h2, h3, h4, h5, h6⟩ := h
  have e : ∀ a, a ≠ 0 → (upd2 iv 0 15 v) a = iv a := fun a ha => upd2_off _ _ _ _ ha
  refine ⟨h0, ?_, h2.fr (fun a ha => e a (by omega)), ?_, ?_, ?_, ?_⟩
  · exact h1.fr (e _ (by decide)) (e _ (by decide)) (e _ (by decide)) (e _ (by decide)) (e _ (by decide)) (fun x hx => e x (by have := hx.1; omega))
  · rw [e 9 (by decide), e 10 (by decide)]; exact h3
  · exact h4.fr (e _ (by decide)) (e _ (by decide)) (e _ (by decide))
  · rw [e 41 (by decide)]; exact h5
  · obtain ⟨m1, m2, m3, m4, m5⟩ := h6
    refine ⟨by rw [e 11 (by decide)]; exact m1, by rw [upd2_ne _ _ _ _ (by omega)]; exact m2, by rw [upd2_self]; rfl, by rw [upd2_ne _ _ _ _ (by omega)]; exact m4, by rw [e 45 (by decide)]; exact m5⟩
theorem c_byteAt (X : XE) (d : Nat) (im lw : List (Option Nat)) (tl : List XC) (iv : Nat → Nat → Int32) (lv : Nat → Nat → Int64) {T : Nat × Sc} (hT : T.1 ≤ 400) (h9 : iv 9 1 = nI T.1) (h10 : ∀ j, j < T.1 → iv 10 j = T.2 j) {i : Nat} (hi : i < 2 ^ 31) : call X xT (d + 1) 65 [.inr (.inr (some 9)), .inl (nI i)] (SS im lw tl, iv, lv) = some (some (.inl (bt T i)), (SS im lw tl, iv, lv)) := by
  rw [tr65, if_neg (nI_pos hi), h9]
  unfold bt
  by_cases c : i < T.1
  · rw [if_neg (nI_ge c (by omega)), if_pos (inb_nI (by omega) (by omega)), if_pos c, nI_clamp hi, h10 i c]
  · rw [if_pos (nI_le (by omega) hi), if_neg c]
theorem c_rowP (X : XE) (d : Nat) {im lw : List (Option Nat)} {tl : List XC} {iv : Nat → Nat → Int32} (lv : Nat → Nat → Int64) {A : St} (h : RelC A im lw tl iv) (ho : OKA A) {i : Nat} (hi : i < 1000) : call X xT (d + 4) 64 [.inr (.inr (some 0)), .inl (nI i)] (SS im lw tl, iv, lv) = if canP A.1.1 (bt A.2.2.1 i) (bt A.2.2.1 (i + 1)) (bt A.2.2.1 (i + 2)) = true then some (some (.inl (nI 1)), (SS im lw tl, upr iv 3 (addPF (iv 3) (nP A.1.1) (bt A.2.2.1 i) (bt A.2.2.1 (i + 1)) (bt A.2.2.1 (i + 2))), lv)) else some (some (.inl (nI 0)), (SS im lw tl, iv, lv)) := by
  obtain ⟨p0, p1, t0, t1, hk⟩ := cfacts h ho
  obtain ⟨q1, q2⟩ := h.2.2.2.1
  have hT := ho.2.2.1.1
  rw [tr64, c_byteAt X (d + 2) im lw tl iv lv hT q1 q2 (by omega), bI_some, sg64_8, nI_add, c_byteAt X (d + 2) im lw tl iv lv hT q1 q2 (by omega), bI_some, sg64_19, nI_add, c_byteAt X (d + 2) im lw tl iv lv hT q1 q2 (by omega), bI_some, sg64_30, c_fits X (d + 1), bI_some, sg64_39, b2i_ite]
  unfold canP
  by_cases hf : (inV (bt A.2.2.1 i) (nI 9) && inV (bt A.2.2.1 (i + 1)) (nI 9) && inV (bt A.2.2.1 (i + 2)) (nI 7)) = true
  · rw [if_pos hf, hf, Bool.true_and]
    obtain ⟨r, r1, r2⟩ := c_onTub (X := X) (d := d + 1) (lv := lv) (sc2 im lw tl) (bt A.2.2.1 (i + 2)) p1 p0
    rw [tubV_eq h.eq _ _ _ (by omega)] at r2
    rw [r1, bI_some, sg64_54]
    by_cases ht : tubV A.1.1 (bt A.2.2.1 (i + 2)) (nP A.1.1) 0 = true
    · rw [if_neg (fun q => by rw [r2.mp q] at ht; cases ht), ht]
      rfl
    · have ht2 : tubV A.1.1 (bt A.2.2.1 (i + 2)) (nP A.1.1) 0 = false := by simpa using ht
      rw [if_pos (r2.mpr ht2), ht2, Bool.not_false, Bool.true_and]
      by_cases h6 : nP A.1.1 < 6
      · rw [decide_eq_true h6, if_pos rfl, c_addP (sc2 im lw tl) _ _ _ h6 p0, bI_some, sg64_74, if_neg (nI_m1 (by omega))]
      · rw [decide_eq_false h6, if_neg (by decide), c_addPfull (sc2 im lw tl) _ _ _ (by rw [p0, show nP A.1.1 = 6 by omega]), bI_some, sg64_74, if_pos rfl]
  · rw [if_neg hf, if_neg (by rw [Bool.and_eq_true]; exact fun q => hf q.1)]
theorem c_row_loop (X : XE) (hX : XOK X) (d : Nat) {im lw : List (Option Nat)} {tl : List XC} {A : St} (hT : okT A.2.2.1) : ∀ (m i : Nat) (s : Sc × Int32 × Nat) (iv : Nat → Nat → Int32) (lv : Nat → Nat → Int64), A.2.2.1.1 ≤ i + 3 * m → i < 600 → RelC (rowA A s) im lw tl iv → OKA (rowA A s) → ∃ iv' lv', run X (call X xT (d + 4)) false 1 xc63 35 [some (.inr (.inr (some 0))), some (.inl (nI A.2.2.1.1)), some (.inl (nI s.2.2)), some (.inl (nI i))] [] (SS im lw tl, iv, lv) = some (some (.inl (nI (rowSt A.2.2.1 m i s).2.2)), (SS im lw tl, iv', lv')) ∧ RelC (stS (stT (rowA A (rowSt A.2.2.1 m i s)) (0, A.2.2.1.2)) (nI 0)) im lw tl iv' ∧ midI iv iv' ∧ lv' = lv := by
  have hT4 := hT.1
  have fin : ∀ (i : Nat) (s : Sc × Int32 × Nat) (iv : Nat → Nat → Int32) (lv : Nat → Nat → Int64), A.2.2.1.1 ≤ i → i < 700 → RelC (rowA A s) im lw tl iv → ∃ iv' lv', run X (call X xT (d + 4)) false 1 xc63 35 [some (.inr (.inr (some 0))), some (.inl (nI A.2.2.1.1)), some (.inl (nI s.2.2)), some (.inl (nI i))] [] (SS im lw tl, iv, lv) = some (some (.inl (nI s.2.2)), (SS im lw tl, iv', lv')) ∧ RelC (stS (stT (rowA A s) (0, A.2.2.1.2)) (nI 0)) im lw tl iv' ∧ midI iv iv' ∧ lv' = lv := by
    intro i s iv lv hi hi2 h
    rw [sg63_35, if_pos (nI_le hi (by omega)), tr66, bV_some, sg63_77, tr22, bI_some, sg63_82]
    refine ⟨_, lv, rfl, RelC.st (h.tp (T := (0, A.2.2.1.2)) (iv' := upd2 iv 9 1 (nI 0)) ⟨upd2_self _ _ _ _, fun j hj => absurd hj (Nat.not_lt_zero _)⟩ (fun a h1 _ => upd2_off _ _ _ _ h1)) _, (mid_upd _ _ _ (by decide)).tr (mid_upd _ _ _ (by decide)), rfl⟩
  intro m
  induction m with
  | zero =>
    intro i s iv lv hm hi h ho
    exact fin i s iv lv (by omega) (by omega) h
  | succ m ih =>
    intro i s iv lv hm hi h ho
    by_cases c : A.2.2.1.1 ≤ i
    · simp only [rowSt, if_pos c]
      exact fin i s iv lv c (by omega) h
    · simp only [rowSt, if_neg c]
      have hP := c_rowP X d lv h ho (i := i) (by omega)
      rw [sg63_35, if_neg (nI_ge (show i < A.2.2.1.1 by omega) (by omega)), hP]
      show ∃ iv' lv', bI (if canP s.1 (bt A.2.2.1 i) (bt A.2.2.1 (i + 1)) (bt A.2.2.1 (i + 2)) = true then some (some (.inl (nI 1)), (SS im lw tl, upr iv 3 (addPF (iv 3) (nP s.1) (bt A.2.2.1 i) (bt A.2.2.1 (i + 1)) (bt A.2.2.1 (i + 2))), lv)) else some (some (.inl (nI 0)), (SS im lw tl, iv, lv))) _ = _ ∧ _
      unfold rowS1
      by_cases cc : canP s.1 (bt A.2.2.1 i) (bt A.2.2.1 (i + 1)) (bt A.2.2.1 (i + 2)) = true
      · rw [if_pos cc, if_pos cc, bI_some, sg63_45, if_neg nI1_ne0, nI_add, nI_add]
        obtain ⟨o1, o2⟩ := canP_ok (f := s.1) ho.1.1 cc
        have e3 : eqS (iv 3) s.1 := h.eq
        have h' : RelC (rowA A (addPF s.1 (nP s.1) (bt A.2.2.1 i) (bt A.2.2.1 (i + 1)) (bt A.2.2.1 (i + 2)), s.2.1, s.2.2 + 1)) im lw tl (upr iv 3 (addPF (iv 3) (nP s.1) (bt A.2.2.1 i) (bt A.2.2.1 (i + 1)) (bt A.2.2.1 (i + 2)))) := RelC.sc h (addPF_eq e3 _ _ _ _)
        have ho' : OKA (rowA A (addPF s.1 (nP s.1) (bt A.2.2.1 i) (bt A.2.2.1 (i + 1)) (bt A.2.2.1 (i + 2)), s.2.1, s.2.2 + 1)) := by
          obtain ⟨a1, a2, a3, a4, a5⟩ := ho
          exact ⟨okW_f a1 o1 (by show nP s.1 ≤ nP (addPF s.1 (nP s.1) _ _ _); rw [nP_addP _ o2]; omega) (by show nT s.1 ≤ nT (addPF s.1 (nP s.1) _ _ _); rw [nT_addP]; omega), a2, a3, okU_nil _, a5⟩
        obtain ⟨iv2, lv2, k1, k2, k3, k4⟩ := ih (i + 3) _ _ lv (by omega) (by omega) h' ho'
        exact ⟨iv2, lv2, k1, k2, (mid_upr _ _ (by decide)).tr k3, k4⟩
      · rw [if_neg cc, if_neg cc, bI_some, sg63_45, if_pos nI0_eq0, nI_add]
        have e15 : iv 0 15 = s.2.1 := h.2.2.2.2.2.2.2.2.1
        rw [e15]
        obtain ⟨iv2, lv2, k1, k2, k3, k4⟩ := ih (i + 3) (s.1, s.2.1 + nI 1, s.2.2) _ lv (by omega) (by omega) (relC_stA h (s.2.1 + nI 1)) ho
        exact ⟨iv2, lv2, k1, k2, (mid_upd _ _ _ (by decide)).tr k3, k4⟩
theorem C_row : CSpec 63 [] sp_row := by
  intro X hX d im lw tl iv lv A h ho
  show CR' im lw tl iv lv _ _
  have hT := ho.2.2.1
  have hT4 := hT.1
  unfold sp_row
  rw [tr63, tr60, bI_some, sg63_7, h.2.2.2.1.1]
  by_cases c : A.2.2.1.1 = 0
  · rw [if_pos c, if_pos (by rw [c]; exact nI0_eq0)]
    exact crf h (i := 4) (by decide) (by rw [c_rf4 hX, bI_some, sg63_18])
  · rw [if_neg c, if_neg (nI_ne0 (by omega) (by omega)), tr20, bV_some, sg63_26]
    have h' : RelC (rowA A (A.1.1, nI 0, 0)) im lw tl (upd2 (upd2 (upd2 iv 30 3 (nI 0)) 30 2 (nI 0)) 0 15 (nI 0)) := relC_stA (RelC.clr h) _
    obtain ⟨iv2, lv2, k1, k2, k3, k4⟩ := c_row_loop X hX (d + 35) hT 134 0 (A.1.1, nI 0, 0) _ lv (by omega) (by omega) h' (oka_row ho ho.1.1 (Nat.le_refl _) (Nat.le_refl _) _)
    exact ⟨iv2, lv2, k1, k2, (((mid_upd _ _ _ (by decide)).tr (mid_upd _ _ _ (by decide))).tr (mid_upd _ _ _ (by decide))).tr k3, by rw [k4]; exact midL.rf⟩
/-- the reference -/
theorem relM_stA {A : St} {iv : Nat → Nat → Int32} {lv : Nat → Nat → Int64} (h : RelM A iv lv) (v : Int32) : RelM (stA A v) (upd2 iv 46 11 v) lv := by
  have c : ∀ a, a ≠ 46 → (upd2 iv 46 11 v) a = iv a := fun a ha => upd2_off _ _ _ _ ha
  have f : ∀ k, k ≠ 11 → (upd2 iv 46 11 v) 46 k = iv 46 k := fun k hk => upd2_ne _ _ _ _ (by omega)
  obtain ⟨h1, h2, h3, h4, h5, h6, h7, h8⟩ := h
  refine ⟨?_, ?_, ?_, ?_, ?_, ?_, ?_, h8⟩
  · rw [c 48 (by simp)]; exact h1
  · unfold imgsM; rw [c 49 (by simp), c 50 (by simp)]; exact h2
  · rw [f 13 (by simp), c 55 (by simp)]; exact h3
  · unfold undoM; rw [f 8 (by simp), c 51 (by simp), c 52 (by simp)]; exact h4
  · unfold drawnM; rw [f 58 (by simp), f 59 (by simp), c 78 (by simp)]; exact h5
  · unfold miscM
    rw [f 18 (by simp), f 54 (by simp), f 1 (by simp), c 47 (by simp), upd2_self]
    obtain ⟨m1, m2, m3, m4, m5⟩ := h6
    exact ⟨m1, m2, rfl, m4, m5⟩
  · rw [f 20 (by simp)]; exact h7
/-- the state of the reference while rows come: its undos are not cleared yet -/
def rowB (A : St) (s : Sc × Int32 × Nat) : St := stA (stF (stT A (0, A.2.2.1.2)) s.1) s.2.1
theorem m_row_loop (X : XE) (d : Nat) (im lw : List (Option Nat)) (tl : List XC) {A : St} (hT : okT A.2.2.1) : ∀ (m i : Nat) (s : Sc × Int32 × Nat) (iv : Nat → Nat → Int32) (lv : Nat → Nat → Int64), A.2.2.1.1 ≤ i + 3 * m → i < 600 → s.2.2 ≤ i → RelM (rowB A s) iv lv → okW (rowB A s).1 → (∀ j, j < A.2.2.1.1 → iv 55 j = A.2.2.1.2 j) → ∃ iv', run X (call X xT (d + 4)) false 1 xc229 35 [some (.inr (.inr (some 46))), some (.inl (nI A.2.2.1.1)), some (.inl (nI s.2.2)), some (.inl (nI i))] [] (SS im lw tl, iv, lv) = some (some (.inl (nI (rowSt A.2.2.1 m i s).2.2)), (SS im lw tl, iv', lv)) ∧ RelM (stS (stT (rowA A (rowSt A.2.2.1 m i s)) (0, A.2.2.1.2)) (nI 0)) iv' lv ∧ outI iv iv' := by
  have hT4 := hT.1
  have fin : ∀ (i : Nat) (s : Sc × Int32 × Nat) (iv : Nat → Nat → Int32) (lv : Nat → Nat → Int64), A.2.2.1.1 ≤ i → i < 700 → s.2.2 ≤ i → RelM (rowB A s) iv lv → ∃ iv', run X (call X xT (d + 4)) false 1 xc229 35 [some (.inr (.inr (some 46))), some (.inl (nI A.2.2.1.1)), some (.inl (nI s.2.2)), some (.inl (nI i))] [] (SS im lw tl, iv, lv) = some (some (.inl (nI s.2.2)), (SS im lw tl, iv', lv)) ∧ RelM (stS (stT (rowA A s) (0, A.2.2.1.2)) (nI 0)) iv' lv ∧ outI iv iv' := by
    intro i s iv lv hi hi2 hc h
    rw [sg229_35, if_pos (nI_le hi (by omega)), m_setP X (d + 2) im lw tl iv lv (nI_p0 (by omega)), bI_some, sg229_103]
    exact ⟨_, rfl, RelM.st (RelM.clr h) _, (out_upd _ _ _ (by decide) (by decide)).tr (out_upd _ _ _ (by decide) (by decide))⟩
  intro m
  induction m with
  | zero =>
    intro i s iv lv hm hi hc h ho hb
    exact fin i s iv lv (by omega) (by omega) hc h
  | succ m ih =>
    intro i s iv lv hm hi hc h ho hb
    by_cases c : A.2.2.1.1 ≤ i
    · simp only [rowSt, if_pos c]
      exact fin i s iv lv c (by omega) hc h
    · simp only [rowSt, if_neg c]
      have e11 : iv 46 11 = s.2.1 := h.2.2.2.2.2.1.2.2.1
      rw [sg229_35, if_neg (nI_ge (show i < A.2.2.1.1 by omega) (by omega)), nI_add, nI_add, nI_add, e11]
      have sauc : ¬ canP s.1 (bt A.2.2.1 i) (bt A.2.2.1 (i + 1)) (bt A.2.2.1 (i + 2)) = true → ∃ iv', run X (call X xT (d + 4)) false 1 xc229 35 [some (.inr (.inr (some 46))), some (.inl (nI A.2.2.1.1)), some (.inl (nI s.2.2)), some (.inl (nI (i + 3)))] [] (SS im lw tl, upd2 iv 46 11 (s.2.1 + nI 1), lv) = some (some (.inl (nI (rowSt A.2.2.1 m (i + 3) (rowS1 A.2.2.1 i s)).2.2)), (SS im lw tl, iv', lv)) ∧ RelM (stS (stT (rowA A (rowSt A.2.2.1 m (i + 3) (rowS1 A.2.2.1 i s))) (0, A.2.2.1.2)) (nI 0)) iv' lv ∧ outI iv iv' := by
        intro cc
        unfold rowS1
        rw [if_neg cc]
        obtain ⟨iv2, k1, k2, k3⟩ := ih (i + 3) (s.1, s.2.1 + nI 1, s.2.2) _ lv (by omega) (by omega) (by show s.2.2 ≤ i + 3; omega) (relM_stA h (s.2.1 + nI 1)) ho (fun j hj => by rw [upd2_off _ _ _ _ (by decide)]; exact hb j hj)
        exact ⟨iv2, k1, k2, (out_upd _ _ _ (by decide) (by decide)).tr k3⟩
      by_cases c2 : A.2.2.1.1 ≤ i + 2
      · rw [if_pos (nI_le c2 (by omega))]
        refine sauc ?_
        unfold canP bt
        rw [if_neg (show ¬ i + 2 < A.2.2.1.1 by omega), show inV (-1) (nI 7) = false by decide, Bool.and_false]
        simp
      · have eb : ∀ j, j < A.2.2.1.1 → iv 55 j = bt A.2.2.1 j := fun j hj => by unfold bt; rw [if_pos hj]; exact hb j hj
        rw [if_neg (nI_ge (by omega) (by omega)), if_pos (inb_nI (show i < 400 by omega) (by omega)), if_pos (inb_nI (show i + 1 < 400 by omega) (by omega)), if_pos (inb_nI (show i + 2 < 400 by omega) (by omega)), nI_clamp (by omega), nI_clamp (by omega), nI_clamp (by omega), eb i (by omega), eb (i + 1) (by omega), eb (i + 2) (by omega)]
        have hcm := m_come X d im lw tl iv lv h ho (bt A.2.2.1 i) (bt A.2.2.1 (i + 1)) (bt A.2.2.1 (i + 2))
        have hcm : call X xT (d + 4) 205 [.inr (.inr (some 46)), .inl (bt A.2.2.1 i), .inl (bt A.2.2.1 (i + 1)), .inl (bt A.2.2.1 (i + 2))] (SS im lw tl, iv, lv) = if (inV (bt A.2.2.1 i) (nI 9) && inV (bt A.2.2.1 (i + 1)) (nI 9) && inV (bt A.2.2.1 (i + 2)) (nI 7)) = true then (if tubV s.1 (bt A.2.2.1 (i + 2)) (nP s.1) 0 = true then some (some (.inl (-3)), (SS im lw tl, iv, lv)) else if nP s.1 = 6 then some (some (.inl (-5)), (SS im lw tl, iv, lv)) else some (some (.inl (nI (nP s.1))), (SS im lw tl, upd2 (upd2 (upd2 (upd2 iv 48 (mx (5 + nP s.1)) (bt A.2.2.1 i)) 48 (mx (11 + nP s.1)) (bt A.2.2.1 (i + 1))) 48 (mx (17 + nP s.1)) (bt A.2.2.1 (i + 2))) 48 (mx 0) (nI (nP s.1 + 1)), lv))) else some (some (.inl (-1)), (SS im lw tl, iv, lv)) := hcm
        have n6 : nP s.1 ≤ 6 := ho.1.1.np.2
        rw [hcm]
        by_cases f1 : (inV (bt A.2.2.1 i) (nI 9) && inV (bt A.2.2.1 (i + 1)) (nI 9) && inV (bt A.2.2.1 (i + 2)) (nI 7)) = true
        · rw [if_pos f1]
          by_cases f2 : tubV s.1 (bt A.2.2.1 (i + 2)) (nP s.1) 0 = true
          · rw [if_pos f2, bI_some, sg229_73, if_pos (by decide), e11, nI_add]
            exact sauc (by unfold canP; rw [f1, f2]; simp)
          · rw [if_neg f2]
            have f2' : tubV s.1 (bt A.2.2.1 (i + 2)) (nP s.1) 0 = false := by simpa using f2
            by_cases f3 : nP s.1 = 6
            · rw [if_pos f3, bI_some, sg229_73, if_pos (by decide), e11, nI_add]
              exact sauc (by unfold canP; rw [f1, f2', f3]; simp)
            · have f3' : nP s.1 < 6 := by omega
              have cc : canP s.1 (bt A.2.2.1 i) (bt A.2.2.1 (i + 1)) (bt A.2.2.1 (i + 2)) = true := by unfold canP; rw [f1, f2', decide_eq_true f3']; rfl
              rw [if_neg f3, bI_some, sg229_73, if_neg (nI_pos (by omega)), nI_add, nI_add]
              unfold rowS1
              rw [if_pos cc]
              obtain ⟨o1, o2⟩ := canP_ok (f := s.1) ho.1 cc
              have h' : RelM (rowB A (addPF s.1 (nP s.1) (bt A.2.2.1 i) (bt A.2.2.1 (i + 1)) (bt A.2.2.1 (i + 2)), s.2.1, s.2.2 + 1)) (upd2 (upd2 (upd2 (upd2 iv 48 (mx (5 + nP s.1)) (bt A.2.2.1 i)) 48 (mx (11 + nP s.1)) (bt A.2.2.1 (i + 1))) 48 (mx (17 + nP s.1)) (bt A.2.2.1 (i + 2))) 48 (mx 0) (nI (nP s.1 + 1))) lv := RelM.pu (RelM.pu (RelM.pu (RelM.pu h (by omega) _) (by omega) _) (by omega) _) (by omega) _
              obtain ⟨iv2, k1, k2, k3⟩ := ih (i + 3) _ _ lv (by omega) (by omega) (by show s.2.2 + 1 ≤ i + 3; omega) h' (okW_f ho o1 (by show nP s.1 ≤ nP (addPF s.1 (nP s.1) _ _ _); rw [nP_addP _ o2]; omega) (by show nT s.1 ≤ nT (addPF s.1 (nP s.1) _ _ _); rw [nT_addP]; omega)) (fun j hj => by rw [upd2_off _ _ _ _ (by decide), upd2_off _ _ _ _ (by decide), upd2_off _ _ _ _ (by decide), upd2_off _ _ _ _ (by decide)]; exact hb j hj)
              exact ⟨iv2, k1, k2, (((((out_upd _ _ _ (by decide) (by decide)).tr (out_upd _ _ _ (by decide) (by decide))).tr (out_upd _ _ _ (by decide) (by decide))).tr (out_upd _ _ _ (by decide) (by decide))).tr k3)⟩
        · rw [if_neg f1, bI_some, sg229_73, if_pos (by decide), e11, nI_add]
          exact sauc (by unfold canP; rw [show (inV (bt A.2.2.1 i) (nI 9) && inV (bt A.2.2.1 (i + 1)) (nI 9) && inV (bt A.2.2.1 (i + 2)) (nI 7)) = false by simpa using f1]; simp)
theorem M_row : MSpec 229 [] sp_row := by
  intro X d im lw tl iv lv A h ho
  show MR' im lw tl iv _ _
  have h0 := h.thr (nI 0)
  have hT := ho.2.2.1
  have hT4 := hT.1
  unfold sp_row
  rw [tr229, h.2.2.1.1]
  have f46 : ∀ (a k : Nat), (a ∈ [47, 48, 49, 50, 51, 52, 78] ∨ (a = 46 ∧ k ∈ [1, 8, 11, 18, 20, 54, 58, 59])) → (upd2 (upd2 iv 46 0 (nI 0)) 46 13 (nI 0)) a k = (upd2 iv 46 0 (nI 0)) a k := fun a k q => upd2_ne _ _ _ _ (by rcases q with q | ⟨q, r⟩ <;> simp at * <;> omega)
  have h1 : RelM (stT A (0, A.2.2.1.2)) (upd2 (upd2 iv 46 0 (nI 0)) 46 13 (nI 0)) lv := h0.tp (T := (0, A.2.2.1.2)) ⟨upd2_self _ _ _ _, fun j hj => absurd hj (Nat.not_lt_zero _)⟩ f46 h0.c
  by_cases c : A.2.2.1.1 = 0
  · rw [if_pos c, if_pos (by rw [c]; exact nI0_eq0)]
    have h1' : RelM A (upd2 (upd2 iv 46 0 (nI 0)) 46 13 (nI 0)) lv := by
      refine h0.fr (fun a k q => ?_) h0.c
      by_cases q2 : a = 46 ∧ k = 13
      · rw [q2.1, q2.2, upd2_self, up0f _ (by decide), h.2.2.1.1, c]
      · exact upd2_ne _ _ _ _ q2
    exact mrf h1' ((out0 iv).tr (out_upd _ _ _ (by decide) (by decide))) (i := 4) (by decide) (by rw [m_rf4, bI_some, sg229_25])
  · rw [if_neg c, if_neg (nI_ne0 (by omega) (by omega))]
    have h2 : RelM (rowB A (A.1.1, nI 0, 0)) (upd2 (upd2 (upd2 iv 46 0 (nI 0)) 46 13 (nI 0)) 46 11 (nI 0)) lv := relM_stA h1 _
    obtain ⟨iv2, k1, k2, k3⟩ := m_row_loop X (d + 35) im lw tl hT 134 0 (A.1.1, nI 0, 0) _ lv (by omega) (by omega) (Nat.le_refl _) h2 ho.1 (fun j hj => by rw [upd2_off _ _ _ _ (by decide), upd2_off _ _ _ _ (by decide), upd2_off _ _ _ _ (by decide)]; exact h.2.2.1.2 j hj)
    exact ⟨iv2, lv, k1, k2, (((out0 iv).tr (out_upd _ _ _ (by decide) (by decide))).tr (out_upd _ _ _ (by decide) (by decide))).tr k3⟩
theorem rowSt_ok (T : Nat × Sc) : ∀ (m i : Nat) (s : Sc × Int32 × Nat), okF s.1 → okF (rowSt T m i s).1 ∧ nP s.1 ≤ nP (rowSt T m i s).1 ∧ nT s.1 = nT (rowSt T m i s).1 := by
  intro m
  induction m with
  | zero => intro i s h; exact ⟨h, Nat.le_refl _, rfl⟩
  | succ m ih =>
    intro i s h
    simp only [rowSt]
    split
    · exact ⟨h, Nat.le_refl _, rfl⟩
    · unfold rowS1
      split
      · rename_i cc
        obtain ⟨o1, o2⟩ := canP_ok h cc
        obtain ⟨a1, a2, a3⟩ := ih (i + 3) (addPF s.1 (nP s.1) (bt T i) (bt T (i + 1)) (bt T (i + 2)), s.2.1, s.2.2 + 1) o1
        refine ⟨a1, ?_, ?_⟩
        · have a2 : nP (addPF s.1 (nP s.1) (bt T i) (bt T (i + 1)) (bt T (i + 2))) ≤ _ := a2
          rw [nP_addP _ o2] at a2
          omega
        · have a3 : nT (addPF s.1 (nP s.1) (bt T i) (bt T (i + 1)) (bt T (i + 2))) = _ := a3
          rw [nT_addP] at a3
          exact a3
      · exact ih (i + 3) (s.1, s.2.1 + nI 1, s.2.2) h
theorem O_row : ∀ A, OKA A → OKA (sp_row A).2 := by
  intro A h
  unfold sp_row
  split
  · exact h
  · obtain ⟨o1, o2, o3⟩ := rowSt_ok A.2.2.1 134 0 (A.1.1, nI 0, 0) h.1.1
    obtain ⟨a1, a2, a3, a4, a5⟩ := oka_row h o1 o2 (Nat.le_of_eq o3) (rowSt A.2.2.1 134 0 (A.1.1, nI 0, 0)).2.1
    exact ⟨a1, a2, ⟨Nat.zero_le _, fun j hj => absurd hj (Nat.not_lt_zero _)⟩, a4, a5⟩
theorem S_row : stepOK 63 229 [] := step_of C_row M_row O_row
