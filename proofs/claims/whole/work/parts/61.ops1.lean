/-! calls: what changes a world -/
theorem RelC.wd {A : St} {im lw : List (Option Nat)} {tl : List XC} {iv iv' : Nat → Nat → Int32} (h : RelC A im lw tl iv) {W : Wd} (hw : worldC (PZ im) (SS im lw tl) iv' 1 3 4 5 6 lw W) (e : ∀ a, a ≠ 1 → a ≠ 3 → a ≠ 4 → a ≠ 5 → a ≠ 6 → iv' a = iv a) : RelC (W, A.2) im lw tl iv' := by
  obtain ⟨h0, h1, h2, h3, h4, h5, h6⟩ := h
  have e := fun a (h : a = 0 ∨ 7 ≤ a) => e a (by omega) (by omega) (by omega) (by omega) (by omega)
  refine ⟨h0, hw, h2.fr (fun a ha => e a (by omega)), ?_, ?_, ?_, ?_⟩
  · rw [e 9 (by decide), e 10 (by decide)]; exact h3
  · exact h4.fr (e _ (by decide)) (e _ (by decide)) (e _ (by decide))
  · rw [e 41 (by decide)]; exact h5
  · unfold miscC; rw [e 11 (by decide), e 0 (by decide), e 45 (by decide)]; exact h6
theorem RelC.tp {A : St} {im lw : List (Option Nat)} {tl : List XC} {iv iv' : Nat → Nat → Int32} (h : RelC A im lw tl iv) {T : Nat × Sc} (ht : iv' 9 1 = nI T.1 ∧ ∀ j, j < T.1 → iv' 10 j = T.2 j) (e : ∀ a, a ≠ 9 → a ≠ 10 → iv' a = iv a) : RelC (A.1, A.2.1, T, A.2.2.2) im lw tl iv' := by
  obtain ⟨h0, h1, h2, h3, h4, h5, h6⟩ := h
  have e := fun a (h : a < 9 ∨ 11 ≤ a) => e a (by omega) (by omega)
  refine ⟨h0, ?_, h2.fr (fun a ha => e a (by omega)), ht, ?_, ?_, ?_⟩
  · exact h1.fr (e _ (by decide)) (e _ (by decide)) (e _ (by decide)) (e _ (by decide)) (e _ (by decide)) (fun x hx => e x (by have := hx.1; omega))
  · exact h4.fr (e _ (by decide)) (e _ (by decide)) (e _ (by decide))
  · rw [e 41 (by decide)]; exact h5
  · unfold miscC; rw [e 11 (by decide), e 0 (by decide), e 45 (by decide)]; exact h6
theorem RelM.wd {A : St} {iv iv' : Nat → Nat → Int32} {lv lv' : Nat → Nat → Int64} (h : RelM A iv lv) {W : Wd} (hr : rowM (iv' 48) W) (e2 : ∀ a k, (a ∈ [47, 49, 50, 51, 52, 55, 78] ∨ (a = 46 ∧ k ∈ [1, 8, 11, 13, 18, 20, 54, 58, 59])) → iv' a k = iv a k) (e3 : constM lv') : RelM (W, A.2) iv' lv' := by
  have c : ∀ a, a ∈ [47, 49, 50, 51, 52, 55, 78] → iv' a = iv a := fun a ha => by funext k; exact e2 a k (Or.inl ha)
  have f : ∀ k, k ∈ [1, 8, 11, 13, 18, 20, 54, 58, 59] → iv' 46 k = iv 46 k := fun k hk => e2 46 k (Or.inr ⟨rfl, hk⟩)
  obtain ⟨h1, h2, h3, h4, h5, h6, h7, h8⟩ := h
  refine ⟨hr, ?_, ?_, ?_, ?_, ?_, ?_, e3⟩
  · unfold imgsM; rw [c 49 (by simp), c 50 (by simp)]; exact h2
  · rw [f 13 (by simp), c 55 (by simp)]; exact h3
  · unfold undoM; rw [f 8 (by simp), c 51 (by simp), c 52 (by simp)]; exact h4
  · unfold drawnM; rw [f 58 (by simp), f 59 (by simp), c 78 (by simp)]; exact h5
  · unfold miscM; rw [f 18 (by simp), f 54 (by simp), f 11 (by simp), f 1 (by simp), c 47 (by simp)]; exact h6
  · rw [f 20 (by simp)]; exact h7
theorem RelM.tp {A : St} {iv iv' : Nat → Nat → Int32} {lv lv' : Nat → Nat → Int64} (h : RelM A iv lv) {T : Nat × Sc} (ht : iv' 46 13 = nI T.1 ∧ ∀ j, j < T.1 → iv' 55 j = T.2 j) (e2 : ∀ a k, (a ∈ [47, 48, 49, 50, 51, 52, 78] ∨ (a = 46 ∧ k ∈ [1, 8, 11, 18, 20, 54, 58, 59])) → iv' a k = iv a k) (e3 : constM lv') : RelM (A.1, A.2.1, T, A.2.2.2) iv' lv' := by
  have c : ∀ a, a ∈ [47, 48, 49, 50, 51, 52, 78] → iv' a = iv a := fun a ha => by funext k; exact e2 a k (Or.inl ha)
  have f : ∀ k, k ∈ [1, 8, 11, 18, 20, 54, 58, 59] → iv' 46 k = iv 46 k := fun k hk => e2 46 k (Or.inr ⟨rfl, hk⟩)
  obtain ⟨h1, h2, h3, h4, h5, h6, h7, h8⟩ := h
  refine ⟨?_, ?_, ht, ?_, ?_, ?_, ?_, e3⟩
  · rw [c 48 (by simp)]; exact h1
  · unfold imgsM; rw [c 49 (by simp), c 50 (by simp)]; exact h2
  · unfold undoM; rw [f 8 (by simp), c 51 (by simp), c 52 (by simp)]; exact h4
  · unfold drawnM; rw [f 58 (by simp), f 59 (by simp), c 78 (by simp)]; exact h5
  · unfold miscM; rw [f 18 (by simp), f 54 (by simp), f 11 (by simp), f 1 (by simp), c 47 (by simp)]; exact h6
  · rw [f 20 (by simp)]; exact h7
/-- a row of the reference that is the scene's alone -/
theorem RelM.pu {A : St} {iv : Nat → Nat → Int32} {lv : Nat → Nat → Int64} (h : RelM A iv lv) {j : Nat} (hj : j < 59) (v : Int32) : RelM (stF A (pu A.1.1 j v)) (upd2 iv 48 (mx j) v) lv := by
  refine h.sc ?_ ?_ ?_ h.c
  · rw [upd2_rw]; exact eqS_pu h.1.1 hj v
  · rw [upd2_rw]; exact rowS_pu _ hj v
  · intro a k q
    exact upd2_ne _ _ _ _ (by rcases q with q | ⟨q, r⟩ <;> simp at * <;> omega)
theorem tubV_eq {f g : Sc} (h : eqS f g) (b : Int32) : ∀ (m q : Nat), q + m ≤ 6 → tubV f b m q = tubV g b m q := by
  intro m
  induction m with
  | zero => intro q _; rfl
  | succ m ih => intro q hq; simp only [tubV]; rw [h (17 + q) (by omega), ih _ (by omega)]
theorem tubV_snoc (f : Sc) (b : Int32) : ∀ (m q : Nat), tubV f b (m + 1) q = (tubV f b m q || decide (f (17 + (q + m)) = b)) := by
  intro m
  induction m with
  | zero => intro q; simp [tubV]
  | succ m ih =>
    intro q
    rw [tubV, ih]
    simp only [tubV]
    rw [show q + 1 + m = q + (m + 1) by omega, Bool.or_assoc]
theorem m_onTub_loop (X : XE) (d : Nat) (im lw : List (Option Nat)) (tl : List XC) (iv : Nat → Nat → Int32) (lv : Nat → Nat → Int64) {f : Sc} (he : eqS f (fM (iv 48))) {n : Nat} (hn : n ≤ 6) (h0 : iv 48 0 = nI n) (b : Int32) : ∀ (m q : Nat) (x : Int32), q + m = n → ((x = -1) ↔ tubV f b q 0 = false) → ∃ r, run X (call X xT d) false 1 xc207 4 [some (.inr (.inr (some 46))), some (.inl b), some (.inl x), some (.inl (nI q))] [] (SS im lw tl, iv, lv) = some (some (.inl r), (SS im lw tl, iv, lv)) ∧ ((r = -1) ↔ tubV f b n 0 = false) := by
  intro m
  induction m with
  | zero =>
    intro q x hq hx
    rw [sg207_4, h0, if_pos (nI_le (by omega) (by omega))]
    exact ⟨x, rfl, by rw [show n = q by omega]; exact hx⟩
  | succ m ih =>
    intro q x hq hx
    have e : iv 48 (20 + q) = f (17 + q) := by rw [he (17 + q) (by omega), fM, mx_b (by omega)]
    rw [sg207_4, h0, if_neg (nI_ge (show q < n by omega) (by omega)), nI_add, if_pos (ib5k (by omega)), nI_clamp (by omega), e, nI_add]
    by_cases c : f (17 + q) = b
    · rw [if_pos c]
      refine ih (q + 1) _ (by omega) ?_
      rw [tubV_snoc, Nat.zero_add, c]
      simp only [decide_true, Bool.or_true]
      exact ⟨fun q => absurd q (nI_m1 (by omega)), fun q => by cases q⟩
    · rw [if_neg c]
      refine ih (q + 1) _ (by omega) ?_
      rw [tubV_snoc, Nat.zero_add]
      simp only [c, decide_false, Bool.or_false]
      exact hx
theorem m_onTub (X : XE) (d : Nat) (im lw : List (Option Nat)) (tl : List XC) (iv : Nat → Nat → Int32) (lv : Nat → Nat → Int64) {f : Sc} (he : eqS f (fM (iv 48))) {n : Nat} (hn : n ≤ 6) (h0 : iv 48 0 = nI n) (b : Int32) : ∃ r, call X xT (d + 1) 207 [.inr (.inr (some 46)), .inl b] (SS im lw tl, iv, lv) = some (some (.inl r), (SS im lw tl, iv, lv)) ∧ ((r = -1) ↔ tubV f b n 0 = false) := by
  rw [tr207]
  exact m_onTub_loop X d im lw tl iv lv he hn h0 b n 0 _ (by omega) (by simp [tubV])
/-- province -/
def sp_province (x y b : Int32) (A : St) : Int32 × St := if (inV x (nI 9) && inV y (nI 9) && inV b (nI 7)) = true then (if tubV A.1.1 b (nP A.1.1) 0 = true then rfs 2 A else if nP A.1.1 = 6 then rfs 3 A else (nI (nP A.1.1), stS (stU (stF A (addPF A.1.1 (nP A.1.1) x y b)) []) (nI 0))) else rfs 0 A
theorem c_fits (X : XE) (d : Nat) (im lw : List (Option Nat)) (tl : List XC) (iv : Nat → Nat → Int32) (lv : Nat → Nat → Int64) (x y b : Int32) : call X xT (d + 2) 14 [.inl x, .inl y, .inl b] (SS im lw tl, iv, lv) = some (some (.inl (b2i (inV x (nI 9) && inV y (nI 9) && inV b (nI 7)))), (SS im lw tl, iv, lv)) := by
  rw [tr14, c_within X d, bI_some, sg14_6, b2i_ite]
  cases inV x (nI 9)
  · rfl
  · rw [if_pos rfl, c_within X d, bI_some, sg14_15, b2i_ite]
    cases inV y (nI 9)
    · rfl
    · rw [if_pos rfl, c_within X d, bI_some, sg14_24, b2i_ite]
      cases inV b (nI 7) <;> rfl
theorem addPF_eq {f g : Sc} (h : eqS f g) (n : Nat) (x y z : Int32) : eqS (addPF f n x y z) (addPF g n x y z) := (((h.put _ _).put _ _).put _ _).put _ _
theorem addTF_eq {f g : Sc} (h : eqS f g) (n : Nat) (x y : Int32) : eqS (addTF f n x y) (addTF g n x y) := (((h.put _ _).put _ _).put _ _).put _ _
theorem C_province (x y b : Int32) : CSpec 13 [.inl x, .inl y, .inl b] (sp_province x y b) := by
  intro X hX d im lw tl iv lv A h ho
  show CR' im lw tl iv lv _ _
  obtain ⟨p0, p1, t0, t1, hk⟩ := cfacts h ho
  have e := h.eq
  rw [tr13, c_fits X (d + 37), bI_some, sg13_6, b2i_ite]
  unfold sp_province
  by_cases hf : (inV x (nI 9) && inV y (nI 9) && inV b (nI 7)) = true
  · rw [if_pos hf, if_pos hf]
    obtain ⟨r, r1, r2⟩ := c_onTub (X := X) (d := d + 37) (lv := lv) (sc2 im lw tl) b p1 p0
    rw [tubV_eq e b _ _ (by omega)] at r2
    rw [r1, bI_some, sg13_26]
    by_cases ht : tubV A.1.1 b (nP A.1.1) 0 = true
    · rw [if_pos ht, if_neg (fun q => by rw [r2.mp q] at ht; cases ht)]
      exact crf h (i := 2) (by decide) (by rw [c_rf2 hX, bI_some, sg13_36])
    · rw [if_neg ht, if_pos (r2.mpr (by simpa using ht)), c_prov0 (sc2 im lw tl), bI_some, sg13_47, p0]
      by_cases h6 : nP A.1.1 = 6
      · rw [if_pos h6, if_neg (nI_nlt (by omega) (by omega))]
        exact crf h (i := 3) (by decide) (by rw [c_rf3 hX, bI_some, sg13_58])
      · rw [if_neg h6, if_pos (nI_lt (by omega) (by omega)), tr20, bV_some, sg13_66, c_addP (sc2 im lw tl) x y b (n := nP A.1.1) (by omega) (by rw [upd2_off _ _ _ _ (by decide), upd2_off _ _ _ _ (by decide)]; exact p0), bI_some, sg13_80, tr22, bI_some, sg13_83]
        refine ⟨_, lv, rfl, RelC.st (RelC.sc (RelC.clr h) (f := addPF A.1.1 (nP A.1.1) x y b) ?_) _, ?_, midL.rf⟩
        · rw [upd2_off _ _ _ _ (by decide), upd2_off _ _ _ _ (by decide)]
          exact addPF_eq e _ _ _ _
        · exact (((mid_upd _ _ _ (by decide)).tr (mid_upd _ _ _ (by decide))).tr (mid_upr _ _ (by decide))).tr (mid_upd _ _ _ (by decide))
  · rw [if_neg hf, if_neg hf]
    exact crf h (i := 0) (by decide) (by rw [c_rf0 hX, bI_some, sg13_14])
/-- the reference's come, where it comes -/
theorem m_come_loop (X : XE) (d : Nat) (im lw : List (Option Nat)) (tl : List XC) (iv : Nat → Nat → Int32) (lv : Nat → Nat → Int64) (v1 v2 v3 : Int32) {n : Nat} (hn : n < 6) (hz : ∀ t, t < 4 → iv 48 (34 + 6 * t + n) = nI 0) : ∀ (m t : Nat), t + m = 4 → run X (call X xT d) false 1 xc205 110 [some (.inr (.inr (some 46))), some (.inl v1), some (.inl v2), some (.inl v3), some (.inl (nI n)), some (.inl (nI t))] [] (SS im lw tl, iv, lv) = some (some (.inl (nI n)), (SS im lw tl, upd2 iv 48 0 (iv 48 0 + nI 1), lv)) := by
  intro m
  induction m with
  | zero =>
    intro t ht
    rw [sg205_110, if_pos (nI_le (by omega) (by omega))]
  | succ m ih =>
    intro t ht
    rw [sg205_110, if_neg (nI_ge (by omega) (by omega)), pk_mul, nI_add, nI_add, if_pos (ib5k (by omega)), nI_clamp (by omega), upd2_as0 _ _ _ (hz t (by omega)), nI_add]
    exact ih (t + 1) (by omega)
theorem mfactsW {A : St} {iv : Nat → Nat → Int32} {lv : Nat → Nat → Int64} (h : RelM A iv lv) (ho : okW A.1) : iv 48 0 = nI (nP A.1.1) ∧ nP A.1.1 ≤ 6 ∧ iv 48 1 = nI (nT A.1.1) ∧ nT A.1.1 ≤ 4 ∧ okS A.1.1 ∧ eqS A.1.1 (fM (iv 48)) ∧ okS (fM (iv 48)) ∧ iv 46 20 = nI 0 := by
  have hk : okS A.1.1 := ho.1.1
  have he : eqS A.1.1 (fM (iv 48)) := h.1.1
  refine ⟨?_, hk.np.2, ?_, hk.nt.2, hk, he, hk.eq he, h.2.2.2.2.2.2.1⟩
  · exact (he 0 (by omega)).symm.trans hk.np.1
  · exact (he 1 (by omega)).symm.trans hk.nt.1
/-- come: what it answers, and where it leaves the row -/
theorem m_come (X : XE) (d : Nat) (im lw : List (Option Nat)) (tl : List XC) (iv : Nat → Nat → Int32) (lv : Nat → Nat → Int64) {A : St} (h : RelM A iv lv) (ho : okW A.1) (x y b : Int32) :
    call X xT (d + 4) 205 [.inr (.inr (some 46)), .inl x, .inl y, .inl b] (SS im lw tl, iv, lv) = if (inV x (nI 9) && inV y (nI 9) && inV b (nI 7)) = true then (if tubV A.1.1 b (nP A.1.1) 0 = true then some (some (.inl (-3)), (SS im lw tl, iv, lv)) else if nP A.1.1 = 6 then some (some (.inl (-5)), (SS im lw tl, iv, lv)) else some (some (.inl (nI (nP A.1.1))), (SS im lw tl, upd2 (upd2 (upd2 (upd2 iv 48 (mx (5 + nP A.1.1)) x) 48 (mx (11 + nP A.1.1)) y) 48 (mx (17 + nP A.1.1)) b) 48 (mx 0) (nI (nP A.1.1 + 1)), lv))) else some (some (.inl (-1)), (SS im lw tl, iv, lv)) := by
  obtain ⟨p0, p1, t0, t1, hk, he, hk2, h20⟩ := mfactsW h ho
  rw [tr205, m_in X (d + 2), bI_some, sg205_9, b2i_ite, in_inV x (top := 9) (by decide)]
  cases inV x (nI 9)
  · rfl
  rw [if_pos rfl, m_in X (d + 2), bI_some, sg205_21, b2i_ite, in_inV y (top := 9) (by decide)]
  cases inV y (nI 9)
  · rfl
  rw [if_pos rfl, tr206, m_in X (d + 1), bI_some, sg206_9, if_pos (is01_b2i _), bI_some, sg205_28, b2i_ite, in_inV b (top := 7) (by decide)]
  cases inV b (nI 7)
  · rfl
  rw [if_pos rfl]
  show _ = (if true = true then _ else _)
  rw [if_pos rfl]
  obtain ⟨r, r1, r2⟩ := m_onTub X (d + 2) im lw tl iv lv he p1 p0 b
  rw [r1, bI_some, sg205_38]
  by_cases ht : tubV A.1.1 b (nP A.1.1) 0 = true
  · rw [if_pos ht, if_neg (fun q => by rw [r2.mp q] at ht; cases ht)]
  · rw [if_neg ht, if_pos (r2.mpr (by simpa using ht)), p0]
    by_cases h6 : nP A.1.1 = 6
    · rw [if_pos h6, if_pos (by rw [h6])]
    · have n6 : nP A.1.1 < 6 := by omega
      rw [if_neg h6, if_neg (fun q => h6 ((nI_eq (by omega) (by omega)).mp q)), nI_add, nI_add, nI_add, nI_add, if_pos (ib5k (by omega)), if_pos (ib5k (by omega)), if_pos (ib5k (by omega)), if_pos (ib5k (by omega)), nI_clamp (by omega), nI_clamp (by omega), nI_clamp (by omega), nI_clamp (by omega)]
      have hf : iv 48 (62 + nP A.1.1) = nI 0 := by
        rw [h.1.2.2.2.1 _ n6]
        obtain ⟨m, hm, -⟩ := ho.2.2.1
        rw [(hm _ n6).1, (hm _ n6).2.2 (Nat.le_refl _)]
      have hy : ∀ t, t < 4 → iv 48 (34 + 6 * t + nP A.1.1) = nI 0 := by
        intro t ht
        have := he (35 + (t * 6 + nP A.1.1)) (by omega)
        rw [ho.1.2 t (nP A.1.1) ht n6 (Or.inr (Nat.le_refl _)), fM, mx_y ht n6] at this
        exact this.symm
      rw [upd2_as0 _ _ _ (by rw [upd2_ne _ _ _ _ (by omega), upd2_ne _ _ _ _ (by omega), upd2_ne _ _ _ _ (by omega)]; exact hf)]
      rw [m_come_loop X (d + 3) im lw tl _ lv x y b n6 (fun t ht => by rw [upd2_ne _ _ _ _ (by omega), upd2_ne _ _ _ _ (by omega), upd2_ne _ _ _ _ (by omega)]; exact hy t ht) 4 0 (by omega)]
      rw [upd2_ne _ _ _ _ (show ¬ (48 = 48 ∧ 0 = 20 + nP A.1.1) by omega), upd2_ne _ _ _ _ (show ¬ (48 = 48 ∧ 0 = 14 + nP A.1.1) by omega), upd2_ne _ _ _ _ (show ¬ (48 = 48 ∧ 0 = 8 + nP A.1.1) by omega), p0, nI_add, mx_h n6, mx_t n6, mx_b n6]
      rfl
theorem nI_p0 {n : Nat} (h : n < 2 ^ 31) : (0 : Int32) ≤ nI n := nI_pos' h
theorem M_province (x y b : Int32) : MSpec 204 [.inl x, .inl y, .inl b] (sp_province x y b) := by
  intro X d im lw tl iv lv A h ho
  show MR' im lw tl iv _ _
  have h0 := h.thr (nI 0)
  rw [tr204, m_come X (d + 35) im lw tl _ lv h0 ho.1 x y b]
  unfold sp_province
  by_cases hf : (inV x (nI 9) && inV y (nI 9) && inV b (nI 7)) = true
  · rw [if_pos hf, if_pos hf]
    by_cases ht : tubV A.1.1 b (nP A.1.1) 0 = true
    · rw [if_pos ht, if_pos ht]
      exact mrf h0 (out0 iv) (i := 2) (by decide) (by rw [bI_some, sg204_13, m_sf2, bI_some, sg204_16])
    · rw [if_neg ht, if_neg ht]
      by_cases h6 : nP A.1.1 = 6
      · rw [if_pos h6, if_pos h6]
        exact mrf h0 (out0 iv) (i := 3) (by decide) (by rw [bI_some, sg204_13, m_sf3, bI_some, sg204_16])
      · have n6 := (mfacts h ho).2.1
        rw [if_neg h6, if_neg h6, bI_some, sg204_13, m_setP X _ im lw tl _ lv (nI_p0 (by omega)), bI_some, sg204_16]
        refine ⟨_, lv, rfl, RelM.st (RelM.clr (RelM.pu (RelM.pu (RelM.pu (RelM.pu h0 (by omega) x) (by omega) y) (by omega) b) (by omega) _)) _, ?_⟩
        exact (out0 iv).tr ((((((out_upd _ _ _ (by decide) (by decide)).tr (out_upd _ _ _ (by decide) (by decide))).tr (out_upd _ _ _ (by decide) (by decide))).tr (out_upd _ _ _ (by decide) (by decide))).tr (out_upd _ _ _ (by decide) (by decide))).tr (out_upd _ _ _ (by decide) (by decide)))
  · rw [if_neg hf, if_neg hf]
    exact mrf h0 (out0 iv) (i := 0) (by decide) (by rw [bI_some, sg204_13, m_sf0, bI_some, sg204_16])
theorem OKA.rfs {A : St} (h : OKA A) (i : Nat) : OKA (rfs i A).2 := h
theorem okS.put {f : Sc} (h : okS f) {j m : Nat} (hm : m ≤ tp j) : okS (pu f j (nI m)) := fun i hi => by
  by_cases e : i = j
  · subst e; exact ⟨m, hm, pu_s _ _ _⟩
  · rw [pu_n _ _ _ e]; exact h i hi
theorem tp_h {p : Nat} (h : p < 6) : tp (5 + p) = 9 := by unfold tp; repeat' split
                                                          all_goals omega
theorem tp_t {p : Nat} (h : p < 6) : tp (11 + p) = 9 := by unfold tp; repeat' split
                                                           all_goals omega
theorem tp_b {p : Nat} (h : p < 6) : tp (17 + p) = 7 := by unfold tp; repeat' split
                                                           all_goals omega
theorem tp_n {p : Nat} (h : p < 4) : tp (23 + p) = 20 := by unfold tp; repeat' split
                                                            all_goals omega
theorem tp_m {p : Nat} (h : p < 4) : tp (27 + p) = 99 := by unfold tp; repeat' split
                                                            all_goals omega
theorem tp_a {p : Nat} (h : p < 4) : tp (31 + p) = 2 := by unfold tp; repeat' split
                                                           all_goals omega
theorem tp_y {t p : Nat} (h : t < 4) (h2 : p < 6) : tp (35 + (t * 6 + p)) = 9 := by unfold tp; repeat' split
                                                                                    all_goals omega
theorem okU_nil (f : Sc) : okU f [] := ⟨by simp, fun e h => by cases h⟩
theorem nP_addP (f : Sc) {n : Nat} (hn : n < 6) (x y b : Int32) : nP (addPF f n x y b) = n + 1 := by
  unfold nP addPF; rw [pu_s, nI_clamp (by omega)]
theorem nT_addP (f : Sc) {n : Nat} (x y b : Int32) : nT (addPF f n x y b) = nT f := by
  unfold nT addPF; rw [pu_n _ _ _ (by omega), pu_n _ _ _ (by omega), pu_n _ _ _ (by omega), pu_n _ _ _ (by omega)]
theorem and3 {a b c : Bool} (h : (a && b && c) = true) : a = true ∧ b = true ∧ c = true := by cases a <;> cases b <;> cases c <;> simp_all
theorem okF_addP {f : Sc} (h : okF f) (hn : nP f < 6) {x y b : Int32} (hf : (inV x (nI 9) && inV y (nI 9) && inV b (nI 7)) = true) : okF (addPF f (nP f) x y b) := by
  obtain ⟨f1, f2, f3⟩ := and3 hf
  obtain ⟨mx_, hx, rfl⟩ := inV_of (by decide) f1
  obtain ⟨my, hy, rfl⟩ := inV_of (by decide) f2
  obtain ⟨mb, hb, rfl⟩ := inV_of (by decide) f3
  refine ⟨?_, ?_⟩
  · refine okS.put (okS.put (okS.put (okS.put h.1 (by rw [tp_h hn]; exact hx)) (by rw [tp_t hn]; exact hy)) (by rw [tp_b hn]; exact hb)) ?_
    show nP f + 1 ≤ 6
    omega
  · intro t p ht hp hq
    rw [nP_addP f hn, nT_addP] at hq
    unfold addPF
    rw [pu_n _ _ _ (by omega), pu_n _ _ _ (by omega), pu_n _ _ _ (by omega), pu_n _ _ _ (by omega)]
    exact h.2 t p ht hp (by omega)
theorem okW_f {w : Wd} (h : okW w) {f : Sc} (hf : okF f) (h1 : nP w.1 ≤ nP f) (h2 : nT w.1 ≤ nT f) : okW (f, w.2) := by
  obtain ⟨-, q2, q3, q4, q5⟩ := h
  refine ⟨hf, ⟨q2.1, fun i hi => ?_⟩, ?_, q4, q5⟩
  · obtain ⟨t, p, k, a1, a2, a3⟩ := q2.2 i hi
    exact ⟨t, p, k, Nat.lt_of_lt_of_le a1 h2, Nat.lt_of_lt_of_le a2 h1, a3⟩
  · obtain ⟨m, m1, m2⟩ := q3
    exact ⟨m, fun p hp => ⟨(m1 p hp).1, (m1 p hp).2.1, fun q => (m1 p hp).2.2 (Nat.le_trans h1 q)⟩, m2⟩
theorem O_province (x y b : Int32) : ∀ A, OKA A → OKA (sp_province x y b A).2 := by
  intro A h
  unfold sp_province
  split
  · rename_i hf
    split
    · exact h
    · split
      · exact h
      · rename_i h6
        have n6 : nP A.1.1 < 6 := by have := h.1.1.1.np.2; omega
        obtain ⟨a1, a2, a3, a4, a5⟩ := h
        exact ⟨okW_f a1 (okF_addP a1.1 n6 hf) (by rw [nP_addP _ n6]; omega) (by rw [nT_addP]; exact Nat.le_refl _), a2, a3, okU_nil _, a5⟩
  · exact h
theorem S_province (x y b : Int32) : stepOK 13 204 [.inl x, .inl y, .inl b] := step_of (C_province x y b) (M_province x y b) (O_province x y b)
