/-! calls: tamer, terms, force, done, forget, and the plain questions -/
def sp_tamer (x y : Int32) (A : St) : Int32 × St := if (inV x (nI 20) && inV y (nI 99)) = true then (if nT A.1.1 = 4 then rfs 3 A else (nI (nT A.1.1), stS (stU (stF A (addTF A.1.1 (nT A.1.1) x y)) []) (nI 0))) else rfs 0 A
theorem C_tamer (x y : Int32) : CSpec 43 [.inl x, .inl y] (sp_tamer x y) := by
  intro X hX d im lw tl iv lv A h ho
  show CR' im lw tl iv lv _ _
  obtain ⟨p0, p1, t0, t1, hk⟩ := cfacts h ho
  have e := h.eq
  rw [tr43, c_within X (d + 38), bI_some, sg43_6, b2i_ite]
  unfold sp_tamer
  cases hx : inV x (nI 20)
  · rw [if_neg (by decide), Bool.false_and, if_neg (by decide)]
    exact crf h (i := 0) (by decide) (by rw [c_rf0 hX, bI_some, sg43_23])
  · rw [if_pos rfl, Bool.true_and, c_within X (d + 38), bI_some, sg43_15, b2i_ite]
    by_cases hy : inV y (nI 99) = true
    · rw [if_pos hy, if_pos hy, c_tam0 (sc2 im lw tl), bI_some, sg43_34, t0]
      by_cases h4 : nT A.1.1 = 4
      · rw [if_pos h4, if_neg (nI_nlt (by omega) (by omega))]
        exact crf h (i := 3) (by decide) (by rw [c_rf3 hX, bI_some, sg43_44])
      · rw [if_neg h4, if_pos (nI_lt (by omega) (by omega)), tr20, bV_some, sg43_52, c_addT (sc2 im lw tl) x y (n := nT A.1.1) (by omega) (by rw [upd2_off _ _ _ _ (by decide), upd2_off _ _ _ _ (by decide)]; exact t0), bI_some, sg43_65, tr22, bI_some, sg43_68]
        refine ⟨_, lv, rfl, RelC.st (RelC.sc (RelC.clr h) (f := addTF A.1.1 (nT A.1.1) x y) ?_) _, ?_, midL.rf⟩
        · rw [upd2_off _ _ _ _ (by decide), upd2_off _ _ _ _ (by decide)]
          exact addTF_eq e _ _ _
        · exact (((mid_upd _ _ _ (by decide)).tr (mid_upd _ _ _ (by decide))).tr (mid_upr _ _ (by decide))).tr (mid_upd _ _ _ (by decide))
    · rw [if_neg hy, if_neg hy]
      exact crf h (i := 0) (by decide) (by rw [c_rf0 hX, bI_some, sg43_23])
theorem m_tam_loop (X : XE) (d : Nat) (im lw : List (Option Nat)) (tl : List XC) (iv : Nat → Nat → Int32) (lv : Nat → Nat → Int64) (v1 v2 : Int32) {n : Nat} (hn : n < 4) (hz : ∀ p, p < 6 → iv 48 (34 + 6 * n + p) = nI 0) : ∀ (m p : Nat), p + m = 6 → run X (call X xT (d + 2)) false 1 xc218 87 [some (.inr (.inr (some 46))), some (.inl v1), some (.inl v2), some (.inl (nI n)), some (.inl (nI p))] [] (SS im lw tl, iv, lv) = some (some (.inl (nI n)), (SS im lw tl, upd2 (upd2 (upd2 iv 48 1 (iv 48 1 + nI 1)) 46 8 (nI 0)) 46 1 (nI 0), lv)) := by
  intro m
  induction m with
  | zero =>
    intro p hp
    rw [sg218_87, if_pos (nI_le (by omega) (by omega)), m_setP X d im lw tl _ lv (nI_p0 (by omega)), bI_some, sg218_131]
  | succ m ih =>
    intro p hp
    rw [sg218_87, if_neg (nI_ge (by omega) (by omega)), pk_mul, nI_add, nI_add, if_pos (ib5k (by omega)), nI_clamp (by omega), upd2_as0 _ _ _ (hz p (by omega)), nI_add]
    exact ih (p + 1) (by omega)
theorem M_tamer (x y : Int32) : MSpec 218 [.inl x, .inl y] (sp_tamer x y) := by
  intro X d im lw tl iv lv A h ho
  show MR' im lw tl iv _ _
  have h0 := h.thr (nI 0)
  obtain ⟨p0, p1, t0, t1, hk, he, hk2, h20⟩ := mfacts h ho
  rw [tr218, m_in X (d + 38), bI_some, sg218_14, b2i_ite, in_inV x (top := 20) (by decide)]
  unfold sp_tamer
  cases hx : inV x (nI 20)
  · rw [if_neg (by decide), Bool.false_and, if_neg (by decide)]
    exact mrf h0 (out0 iv) (i := 0) (by decide) (by rw [m_rf0, bI_some, sg218_34])
  · rw [if_pos rfl, Bool.true_and, m_in X (d + 38), bI_some, sg218_26, b2i_ite, in_inV y (top := 99) (by decide), up0 _ (by decide), t0]
    by_cases hy : inV y (nI 99) = true
    · rw [if_pos hy, if_pos hy]
      by_cases h4 : nT A.1.1 = 4
      · rw [if_pos h4, if_pos (by rw [h4])]
        exact mrf h0 (out0 iv) (i := 3) (by decide) (by rw [m_rf3, bI_some, sg218_53])
      · have n4 : nT A.1.1 < 4 := by omega
        have hz : ∀ p, p < 6 → iv 48 (34 + 6 * nT A.1.1 + p) = nI 0 := by
          intro p hp
          have := he (35 + (nT A.1.1 * 6 + p)) (by omega)
          rw [ho.1.1.2 (nT A.1.1) p n4 hp (Or.inl (Nat.le_refl _)), fM, mx_y n4 hp] at this
          exact this.symm
        have u48 : ∀ k, (upd2 iv 46 0 (nI 0)) 48 k = iv 48 k := fun k => by rw [up0 _ (by decide)]
        rw [if_neg h4, if_neg (fun q => h4 ((nI_eq (by omega) (by omega)).mp q)), nI_add, nI_add, nI_add, if_pos (ib5k (by omega)), if_pos (ib5k (by omega)), if_pos (ib5k (by omega)), nI_clamp (by omega), nI_clamp (by omega), nI_clamp (by omega), m_tam_loop X (d + 37) im lw tl _ lv x y n4 (fun p hp => by rw [upd2_ne _ _ _ _ (by omega), upd2_ne _ _ _ _ (by omega), upd2_ne _ _ _ _ (by omega), u48]; exact hz p hp) 6 0 (by omega), upd2_ne _ _ _ _ (show ¬ (48 = 48 ∧ 1 = 30 + nT A.1.1) by omega), upd2_ne _ _ _ _ (show ¬ (48 = 48 ∧ 1 = 26 + nT A.1.1) by omega), upd2_ne _ _ _ _ (show ¬ (48 = 48 ∧ 1 = 58 + nT A.1.1) by omega), u48, t0, nI_add, ← mx_n n4, ← mx_m n4, ← mx_a n4]
        refine ⟨_, lv, rfl, RelM.st (RelM.clr (RelM.pu (RelM.pu (RelM.pu (RelM.pu h0 (by omega) x) (by omega) y) (by omega) _) (j := 1) (by omega) _)) _, ?_⟩
        exact (out0 iv).tr ((((((out_upd _ _ _ (by decide) (by decide)).tr (out_upd _ _ _ (by decide) (by decide))).tr (out_upd _ _ _ (by decide) (by decide))).tr (out_upd _ _ _ (by decide) (by decide))).tr (out_upd _ _ _ (by decide) (by decide))).tr (out_upd _ _ _ (by decide) (by decide)))
    · rw [if_neg hy, if_neg hy]
      exact mrf h0 (out0 iv) (i := 0) (by decide) (by rw [m_rf0, bI_some, sg218_34])
theorem nT_addT (f : Sc) {n : Nat} (hn : n < 4) (x y : Int32) : nT (addTF f n x y) = n + 1 := by
  unfold nT addTF; rw [pu_s, nI_clamp (by omega)]
theorem nP_addT (f : Sc) {n : Nat} (x y : Int32) : nP (addTF f n x y) = nP f := by
  unfold nP addTF; rw [pu_n _ _ _ (by omega), pu_n _ _ _ (by omega), pu_n _ _ _ (by omega), pu_n _ _ _ (by omega)]
theorem okF_addT {f : Sc} (h : okF f) (hn : nT f < 4) {x y : Int32} (f1 : inV x (nI 20) = true) (f2 : inV y (nI 99) = true) : okF (addTF f (nT f) x y) := by
  obtain ⟨mx_, hx, rfl⟩ := inV_of (by decide) f1
  obtain ⟨my, hy, rfl⟩ := inV_of (by decide) f2
  refine ⟨?_, ?_⟩
  · refine okS.put (okS.put (okS.put (okS.put h.1 (by rw [tp_n hn]; exact hx)) (by rw [tp_m hn]; exact hy)) (by rw [tp_a hn]; exact Nat.le_refl _)) ?_
    show nT f + 1 ≤ 4
    omega
  · intro t p ht hp hq
    rw [nT_addT f hn, nP_addT] at hq
    unfold addTF
    rw [pu_n _ _ _ (by omega), pu_n _ _ _ (by omega), pu_n _ _ _ (by omega), pu_n _ _ _ (by omega)]
    exact h.2 t p ht hp (by omega)
theorem O_tamer (x y : Int32) : ∀ A, OKA A → OKA (sp_tamer x y A).2 := by
  intro A h
  unfold sp_tamer
  split
  · rename_i hf
    split
    · exact h
    · rename_i h4
      have n4 : nT A.1.1 < 4 := by have := h.1.1.1.nt.2; omega
      obtain ⟨a1, a2, a3, a4, a5⟩ := h
      rw [Bool.and_eq_true] at hf
      exact ⟨okW_f a1 (okF_addT a1.1 n4 hf.1 hf.2) (by rw [nP_addT]; exact Nat.le_refl _) (by rw [nT_addT _ n4]; omega), a2, a3, okU_nil _, a5⟩
  · exact h
theorem S_tamer (x y : Int32) : stepOK 43 218 [.inl x, .inl y] := step_of (C_tamer x y) (M_tamer x y) (O_tamer x y)
/-- terms -/
def topT (n : Nat) : Nat := [999, 10, 9].getD n 0
def sp_terms (x v : Int32) (A : St) : Int32 × St := if inV x (nI 2) = true then (if inV v (nI (topT x.toNatClampNeg)) = true then (A.1.1 (2 + x.toNatClampNeg), stS (stU (stF A (pu A.1.1 (2 + x.toNatClampNeg) v)) []) (nI 0)) else rfs 0 A) else rfs 0 A
theorem topT_I {n : Nat} (h : n < 3) : ([999, 10, 9] : List Int32).getD n 0 = nI (topT n) := by
  have : n = 0 ∨ n = 1 ∨ n = 2 := by omega
  rcases this with rfl | rfl | rfl <;> rfl
theorem topT_lt {n : Nat} (h : n < 3) : topT n < 2 ^ 31 := by
  have : n = 0 ∨ n = 1 ∨ n = 2 := by omega
  rcases this with rfl | rfl | rfl <;> decide
theorem C_terms (x v : Int32) : CSpec 56 [.inl x, .inl v] (sp_terms x v) := by
  intro X hX d im lw tl iv lv A h ho
  show CR' im lw tl iv lv _ _
  have e := h.eq
  have hX2 := hX
  obtain ⟨L, xs, rfl⟩ := hX2
  rw [tr56, alen_t, show nI 3 - nI 1 = nI 2 by decide, c_within _ (d + 38), bI_some, sg56_10, b2i_ite]
  unfold sp_terms
  by_cases hx : inV x (nI 2) = true
  · rw [if_pos hx, if_pos hx]
    obtain ⟨n, hn, rfl⟩ := inV_of (by decide) hx
    rw [ild_t _ _ _ _ (show n < 3 by omega), topT_I (by omega), nI_clamp (show n < 2 ^ 31 by omega), c_within _ (d + 38), bI_some, sg56_22, b2i_ite]
    by_cases hv : inV v (nI (topT n)) = true
    · rw [if_pos hv, if_pos hv, tr20, bV_some, sg56_38, c_get0 (sc2 im lw tl) (by omega), bI_some, sg56_50, c_set0 (sc2 im lw tl) (by omega), bV_some, sg56_64, tr22, bI_some, sg56_69, upd2_off _ _ _ _ (show 3 ≠ 30 by decide), upd2_off _ _ _ _ (show 3 ≠ 30 by decide), e _ (by omega)]
      refine ⟨_, lv, rfl, RelC.st (RelC.sc (RelC.clr h) (f := pu A.1.1 (2 + n) v) (e.put _ _)) _, ?_, midL.rf⟩
      exact (((mid_upd _ _ _ (by decide)).tr (mid_upd _ _ _ (by decide))).tr (mid_upr _ _ (by decide))).tr (mid_upd _ _ _ (by decide))
    · rw [if_neg hv, if_neg hv]
      exact crf h (i := 0) (by decide) (by rw [c_rf0 hX, bI_some, sg56_30])
  · rw [if_neg hx, if_neg hx]
    exact crf h (i := 0) (by decide) (by rw [c_rf0 hX, bI_some, sg56_30])
theorem mx_d {n : Nat} (h : n < 3) : mx (2 + n) = 5 + n := by unfold mx; split <;> (try split) <;> (try split) <;> omega
theorem M_terms (x v : Int32) : MSpec 227 [.inl x, .inl v] (sp_terms x v) := by
  intro X d im lw tl iv lv A h ho
  show MR' im lw tl iv _ _
  have h0 := h.thr (nI 0)
  obtain ⟨p0, p1, t0, t1, hk, he, hk2, h20⟩ := mfacts h ho
  have fin : ∀ n, n < 3 → inV v (nI (topT n)) = true → call X xT (d + 39) 228 [.inr (.inr (some 46)), .inl (nI 5 + nI n), .inl v] (SS im lw tl, upd2 (upd2 iv 46 0 (nI 0)) 46 8 (nI 0), lv) = some (some (.inl (A.1.1 (2 + n))), (SS im lw tl, upd2 (upd2 (upd2 (upd2 iv 46 0 (nI 0)) 46 8 (nI 0)) 48 (mx (2 + n)) v) 46 1 (nI 0), lv)) := by
    intro n hn hv
    rw [tr228, nI_add, if_pos (ib5k (by omega)), if_pos (ib5k (by omega)), nI_clamp (by omega), upd2_ne _ _ _ _ (by omega), up0 _ (by decide), mx_d hn, he _ (by omega), fM, mx_d hn]
  have good : ∀ n, n < 3 → inV v (nI (topT n)) = true → ∀ r, r = some (some (.inl (A.1.1 (2 + n))), (SS im lw tl, upd2 (upd2 (upd2 (upd2 iv 46 0 (nI 0)) 46 8 (nI 0)) 48 (mx (2 + n)) v) 46 1 (nI 0), lv)) → MR' im lw tl iv r (A.1.1 (2 + n), stS (stU (stF A (pu A.1.1 (2 + n) v)) []) (nI 0)) := by
    intro n hn hv r hr
    refine ⟨_, lv, hr, RelM.st (RelM.pu (RelM.clr h0) (j := 2 + n) (by omega) v) _, ?_⟩
    exact (((out0 iv).tr (out_upd _ _ _ (by decide) (by decide))).tr (out_upd _ _ _ (by decide) (by decide))).tr (out_upd _ _ _ (by decide) (by decide))
  unfold sp_terms
  rw [tr227]
  by_cases x0 : x = 0
  · subst x0
    rw [if_pos rfl, if_pos (by decide), m_in X (d + 38), bI_some, sg227_18, b2i_ite, in_inV v (top := 999) (by decide), show (0 : Int32).toNatClampNeg = 0 by decide]
    by_cases hv : inV v (nI 999) = true
    · rw [if_pos hv, if_pos (show inV v (nI (topT 0)) = true from hv)]
      exact good 0 (by decide) hv _ (by have := fin 0 (by decide) hv; rw [nI_0] at this; rw [nI_0, this, bI_some, sg227_84])
    · rw [if_neg hv, if_neg (show ¬ inV v (nI (topT 0)) = true from hv)]
      exact mrf h0 (out0 iv) (i := 0) (by decide) (by rw [m_rf0, bI_some, sg227_70])
  rw [if_neg x0]
  by_cases x1 : x = nI 1
  · subst x1
    rw [if_pos rfl, if_pos (by decide), m_in X (d + 38), bI_some, sg227_35, b2i_ite, in_inV v (top := 10) (by decide), show (nI 1).toNatClampNeg = 1 by decide]
    by_cases hv : inV v (nI 10) = true
    · rw [if_pos hv, if_pos (show inV v (nI (topT 1)) = true from hv)]
      exact good 1 (by decide) hv _ (by rw [fin 1 (by decide) hv, bI_some, sg227_84])
    · rw [if_neg hv, if_neg (show ¬ inV v (nI (topT 1)) = true from hv)]
      exact mrf h0 (out0 iv) (i := 0) (by decide) (by rw [m_rf0, bI_some, sg227_70])
  rw [if_neg x1]
  by_cases x2 : x = nI 2
  · subst x2
    rw [if_pos rfl, if_pos (by decide), m_in X (d + 38), bI_some, sg227_52, b2i_ite, in_inV v (top := 9) (by decide), show (nI 2).toNatClampNeg = 2 by decide]
    by_cases hv : inV v (nI 9) = true
    · rw [if_pos hv, if_pos (show inV v (nI (topT 2)) = true from hv)]
      exact good 2 (by decide) hv _ (by rw [fin 2 (by decide) hv, bI_some, sg227_84])
    · rw [if_neg hv, if_neg (show ¬ inV v (nI (topT 2)) = true from hv)]
      exact mrf h0 (out0 iv) (i := 0) (by decide) (by rw [m_rf0, bI_some, sg227_70])
  rw [if_neg x2, if_neg (fun q => by
    obtain ⟨n, hn, e⟩ := inV_of (by decide) q
    have : n = 0 ∨ n = 1 ∨ n = 2 := by omega
    rcases this with rfl | rfl | rfl
    · exact x0 (e.trans nI_0)
    · exact x1 e
    · exact x2 e)]
  exact mrf h0 (out0 iv) (i := 0) (by decide) (by rw [m_rf0, bI_some, sg227_70])
theorem O_terms (x v : Int32) : ∀ A, OKA A → OKA (sp_terms x v A).2 := by
  intro A h
  unfold sp_terms
  split
  · rename_i hx
    obtain ⟨n, hn, rfl⟩ := inV_of (by decide) hx
    rw [nI_clamp (by omega)]
    split
    · rename_i hv
      obtain ⟨m, hm, rfl⟩ := inV_of (topT_lt (by omega)) hv
      obtain ⟨a1, a2, a3, a4, a5⟩ := h
      have e1 : nP (pu A.1.1 (2 + n) (nI m)) = nP A.1.1 := by unfold nP; rw [pu_n _ _ _ (by omega)]
      have e2 : nT (pu A.1.1 (2 + n) (nI m)) = nT A.1.1 := by unfold nT; rw [pu_n _ _ _ (by omega)]
      refine ⟨okW_f a1 ⟨a1.1.1.put ?_, ?_⟩ (by rw [e1]; exact Nat.le_refl _) (by rw [e2]; exact Nat.le_refl _), a2, a3, okU_nil _, a5⟩
      · have : n = 0 ∨ n = 1 ∨ n = 2 := by omega
        rcases this with rfl | rfl | rfl <;> exact hm
      · intro t p ht hp hq
        rw [e1, e2] at hq
        rw [pu_n _ _ _ (by omega)]
        exact a1.1.2 t p ht hp hq
    · exact h
  · exact h
theorem S_terms (x v : Int32) : stepOK 56 227 [.inl x, .inl v] := step_of (C_terms x v) (M_terms x v) (O_terms x v)
/-- force -/
def stW (A : St) (w : Wd) : St := (w, A.2)
def isLawV (A : St) (l : Int32) : Bool := decide (l = -1) || hasV (nI A.1.2.2.2.1.1) l
def sp_force (l : Int32) (A : St) : Int32 × St := if isLawV A l = true then (A.1.2.2.2.2, stS (stW A (A.1.1, A.1.2.1, A.1.2.2.1, A.1.2.2.2.1, l)) (nI 0)) else rfs 1 A
theorem C_force (l : Int32) : CSpec 133 [.inl l] (sp_force l) := by
  intro X hX d im lw tl iv lv A h ho
  show CR' im lw tl iv lv _ _
  have good : ∀ r, r = some (some (.inl (iv 1 5)), (SS im lw tl, upd2 (upd2 iv 1 5 l) 0 17 (nI 0), lv)) → CR' im lw tl iv lv r (A.1.2.2.2.2, stS (stW A (A.1.1, A.1.2.1, A.1.2.2.1, A.1.2.2.2.1, l)) (nI 0)) := by
    intro r hr
    obtain ⟨q1, q2, q3, q4, q5, q6, q7⟩ := h.2.1
    have e : ∀ a, a ≠ 1 → (upd2 iv 1 5 l) a = iv a := fun a ha => upd2_off _ _ _ _ ha
    refine ⟨_, lv, by rw [hr, q6], RelC.st (h.wd (iv' := upd2 iv 1 5 l) (W := (A.1.1, A.1.2.1, A.1.2.2.1, A.1.2.2.2.1, l)) ⟨?_, ?_, ?_, ?_, ?_, ?_, ?_⟩ (fun a h1 _ _ _ _ => e a h1)) _, (mid_upd _ _ _ (by decide)).tr (mid_upd _ _ _ (by decide)), midL.rf⟩
    · rw [e 3 (by decide)]; exact q1
    · rw [e 4 (by decide)]; exact q2
    · rw [e 5 (by decide)]; exact q3
    · rw [e 6 (by decide)]; exact q4
    · rw [upd2_ne _ _ _ _ (by omega)]; exact q5
    · rw [upd2_self]
    · intro k hk
      obtain ⟨r, w1, w2, w3⟩ := q7 k hk
      exact ⟨r, w1, w2, w3.mo (Nat.le_refl _) (fun _ _ h => h) (fun x _ hx => ⟨rfl, e x (by have := hx.1; omega)⟩)⟩
  unfold sp_force isLawV
  rw [tr133]
  by_cases hl : l = -1
  · rw [if_pos hl, if_pos (by simp [hl])]
    exact good _ (by rw [tr22, bI_some, sg133_44])
  · rw [if_neg hl, tr134, decide_eq_false hl, Bool.false_or, h.2.1.2.2.2.2.1]
    by_cases hh : hasV (nI A.1.2.2.2.1.1) l = true
    · have hh2 := of_decide_eq_true hh
      rw [if_pos hh, if_neg hh2.1, if_neg hh2.2, bI_some, sg133_13, if_neg nI1_ne0]
      exact good _ (by rw [tr22, bI_some, sg133_44])
    · rw [if_neg hh]
      refine crf h (i := 1) (by decide) ?_
      by_cases l0 : l < 0
      · rw [if_pos l0, bI_some, sg133_13, if_pos nI0_eq0, c_rf1 hX, bI_some, sg133_22]
      · rw [if_neg l0, if_pos (Decidable.not_not.mp (fun q => hh (decide_eq_true ⟨l0, q⟩))), bI_some, sg133_13, if_pos nI0_eq0, c_rf1 hX, bI_some, sg133_22]
theorem m_isLaw (X : XE) (d : Nat) (im lw : List (Option Nat)) (tl : List XC) (iv : Nat → Nat → Int32) (lv : Nat → Nat → Int64) {n : Nat} (hn : n ≤ 6) (h3 : iv 48 3 = nI n) (l : Int32) : call X xT (d + 2) 263 [.inr (.inr (some 46)), .inl l] (SS im lw tl, iv, lv) = some (some (.inl (b2i (decide (l = -1) || hasV (nI n) l))), (SS im lw tl, iv, lv)) := by
  rw [tr263]
  by_cases hl : l = -1
  · rw [if_pos hl, decide_eq_true hl]; rfl
  · rw [if_neg hl, m_in X d, bI_some, sg263_20, h3, has_in l (by omega), some_ite, decide_eq_false hl, Bool.false_or]
theorem rowM.pu {g : Sc} {w : Wd} (h : rowM g w) {i : Nat} (v : Int32) (hi : 62 ≤ i ∨ i = 2 ∨ i = 3 ∨ i = 4) : eqS w.1 (fM (pu g i v)) := fun j hj => by
  rw [h.1 j hj]
  unfold fM
  rw [pu_n _ _ _ (by have := mx_sc hj; omega)]
theorem M_force (l : Int32) : MSpec 262 [.inl l] (sp_force l) := by
  intro X d im lw tl iv lv A h ho
  show MR' im lw tl iv _ _
  have h0 := h.thr (nI 0)
  obtain ⟨q1, q2, q3, q4, q5, q6, q7⟩ := h0.1
  rw [tr262, m_isLaw X (d + 37) im lw tl _ lv ho.1.2.2.2.1 q5, bI_some, sg262_10, b2i_ite]
  unfold sp_force isLawV
  by_cases hl : (decide (l = -1) || hasV (nI A.1.2.2.2.1.1) l) = true
  · rw [if_pos hl, if_pos hl, tr228, if_pos (by decide), if_pos (by decide), bI_some, sg262_19, sg262_28, show (nI 4).toNatClampNeg = 4 by decide, q6]
    refine ⟨_, lv, rfl, RelM.st (h0.wd (iv' := upd2 (upd2 iv 46 0 (nI 0)) 48 4 l) (W := (A.1.1, A.1.2.1, A.1.2.2.1, A.1.2.2.2.1, l)) ?_ ?_ h0.c) _, ((out0 iv).tr (out_upd _ _ _ (by decide) (by decide))).tr (out_upd _ _ _ (by decide) (by decide))⟩
    · rw [upd2_rw]
      refine ⟨h0.1.pu _ (by omega), by rw [pu_n _ _ _ (by omega)]; exact q2, fun j hj => by rw [pu_n _ _ _ (by omega)]; exact q3 j hj, fun p hp => by rw [pu_n _ _ _ (by omega)]; exact q4 p hp, by rw [pu_n _ _ _ (by omega)]; exact q5, by rw [pu_s], fun k hk => (q7 k hk).row (by omega) (fun i hi => pu_n _ _ _ (by omega))⟩
    · intro a k q
      exact upd2_ne _ _ _ _ (by rcases q with q | ⟨q, r⟩ <;> simp at * <;> omega)
  · rw [if_neg hl, if_neg hl]
    exact mrf h0 (out0 iv) (i := 1) (by decide) (by rw [m_rf1, bI_some, sg262_28])
theorem O_force (l : Int32) : ∀ A, OKA A → OKA (sp_force l A).2 := by
  intro A h
  unfold sp_force isLawV
  split
  · rename_i hl
    obtain ⟨⟨b1, b2, b3, b4, b5⟩, a2, a3, a4, a5⟩ := h
    refine ⟨⟨b1, b2, b3, b4, ?_⟩, a2, a3, a4, a5⟩
    by_cases e : l = -1
    · exact Or.inl e
    · rw [decide_eq_false e, Bool.false_or] at hl
      obtain ⟨m, hm, e⟩ := hasV_of (by omega) hl
      exact Or.inr ⟨m, hm, e⟩
  · exact h
theorem S_force (l : Int32) : stepOK 133 262 [.inl l] := step_of (C_force l) (M_force l) (O_force l)
/-- the plain questions -/
theorem S_saucers : stepOK 67 230 [] := step_of (F := fun A => (A.2.2.2.2.2.2.2.1, A))
  (fun X hX d im lw tl iv lv A h ho => cq h (by rw [tr67, h.2.2.2.2.2.2.2.2.1])) (fun X d im lw tl iv lv A h ho => mq h (by rw [tr230, h.2.2.2.2.2.1.2.2.1])) (fun _ h => h)
theorem S_fault : stepOK 130 234 [] := step_of (F := fun A => (A.2.2.2.2.2.1, A))
  (fun X hX d im lw tl iv lv A h ho => cq h (by rw [tr130, tr131, bI_some, sg130_7, h.2.2.2.2.2.2.1])) (fun X d im lw tl iv lv A h ho => mq h (by rw [tr234, h.2.2.2.2.2.1.1])) (fun _ h => h)
theorem S_stopped : stepOK 132 315 [] := step_of (F := fun A => (A.2.2.2.2.2.2.1, A))
  (fun X hX d im lw tl iv lv A h ho => cq h (by rw [tr132, h.2.2.2.2.2.2.2.1])) (fun X d im lw tl iv lv A h ho => mq h (by rw [tr315, h.2.2.2.2.2.1.2.1])) (fun _ h => h)
theorem S_status : stepOK 195 321 [] := step_of (F := fun A => (A.2.2.2.2.2.2.2.2.1, A))
  (fun X hX d im lw tl iv lv A h ho => cq h (by rw [tr195, h.2.2.2.2.2.2.2.2.2.1])) (fun X d im lw tl iv lv A h ho => mq h (by rw [tr321, h.2.2.2.2.2.1.2.2.2.1])) (fun _ h => h)
