/-! undos -/
theorem xcopy_ok {ρ : Type} {S : List XC} (iv : Nat → Nat → Int32) (lv : Nat → Nat → Int64) {b a nb na s t m : Nat} {rb ra : List (Option Nat)} (hb : S[b]? = some (50, nb, rb)) (ha : S[a]? = some (50, na, ra)) (h1 : s + m ≤ nb) (h2 : t + m ≤ na) (h3 : nb < 2 ^ 31) (h4 : na < 2 ^ 31) (k : XH → Option ρ) : xcopy (S, iv, lv) b (nI s) a (nI t) (nI m) k = k (S, upr iv a (va_cpy (iv b) (iv a) s t m), lv) := by
  unfold xcopy
  simp only [hb, ha]
  rw [nI_clamp (by omega), nI_clamp (by omega), nI_clamp (by omega), if_pos]
  simp only [Bool.and_eq_true, decide_eq_true_eq]
  exact ⟨⟨⟨⟨⟨⟨trivial, trivial⟩, nI_pos (by omega)⟩, nI_pos (by omega)⟩, nI_pos (by omega)⟩, h1⟩, h2⟩
def pushU (U : List (Int32 × Sc)) (k : Int32) (f : Sc) : List (Int32 × Sc) := ((k, f) :: U).take 16
theorem pushU_at (U : List (Int32 × Sc)) (k : Int32) (f : Sc) (i : Nat) : (pushU U k f)[i]? = if i < 16 then (if i = 0 then some (k, f) else U[i - 1]?) else none := by
  unfold pushU
  rw [List.getElem?_take]
  by_cases h : i < 16
  · rw [if_pos h, if_pos h]
    cases i with
    | zero => rfl
    | succ i => simp
  · rw [if_neg h, if_neg h]
theorem pushU_len {U : List (Int32 × Sc)} (h : U.length ≤ 16) (k : Int32) (f : Sc) : (pushU U k f).length = if U.length + 1 < 16 then U.length + 1 else 16 := by
  unfold pushU
  rw [List.length_take, List.length_cons]
  split <;> omega
theorem sd : nI 944 / nI 59 = nI 16 := by decide
theorem sd2 : nI 354 / nI 59 = nI 6 := by decide
/-- keep -/
theorem c_keep (X : XE) (d : Nat) {im lw : List (Option Nat)} {tl : List XC} {iv : Nat → Nat → Int32} (lv : Nat → Nat → Int64) {A : St} (h : RelC A im lw tl iv) (ho : OKA A) (k : Int32) : ∃ iv', call X xT (d + 2) 115 [.inr (.inr (some 30)), .inr (.inr (some 2)), .inl k] (SS im lw tl, iv, lv) = some (none, (SS im lw tl, iv', lv)) ∧ RelC (stU A (pushU A.2.2.2.1 k A.1.1)) im lw tl iv' ∧ fr [30, 31, 32] iv iv' := by
  obtain ⟨nx, l1, l2, l3, l4⟩ := h.2.2.2.2.1
  have lu := ho.2.2.2.1.1
  rw [tr115, l2, tr116c2_31, if_neg (nI_pos (by omega)), sd, if_neg (nI_ge l1 (by omega)), pk_mul, xcopy_ok iv lv (nb := 59) (na := 944) rfl rfl (by omega) (by omega) (by omega) (by omega), sg116_28c2_31, bV_some, sg115_12]
  have r30 : (upr iv 31 (va_cpy (iv 3) (iv 31) 0 (nx * 59) 59)) 30 = iv 30 := upr_off _ _ _ (by decide)
  rw [r30, l2, l3, if_pos (inb_nI l1 (by omega)), nI_clamp (by omega), nI_add, pk_rem (by omega) (by omega) (by omega), nI_add]
  have sz : (if nI (A.2.2.2.1.length + 1) < nI 16 then nI (A.2.2.2.1.length + 1) else nI 16) = nI (pushU A.2.2.2.1 k A.1.1).length := by
    rw [pushU_len lu]
    by_cases c : A.2.2.2.1.length + 1 < 16
    · rw [if_pos (nI_lt c (by omega)), if_pos c]
    · rw [if_neg (nI_nlt (by omega) (by omega)), if_neg c]
  rw [sz]
  have f1 : fr [30, 31, 32] iv (upd2 (upd2 (upd2 (upr iv 31 (va_cpy (iv 3) (iv 31) 0 (nx * 59) 59)) 32 nx k) 30 2 (nI ((nx + 1) % 16))) 30 3 (nI (pushU A.2.2.2.1 k A.1.1).length)) := (((fr_upr _ _ (by simp)).tr (fr_upd _ _ _ (by simp))).tr (fr_upd _ _ _ (by simp))).tr (fr_upd _ _ _ (by simp))
  refine ⟨_, rfl, ?_, f1⟩
  obtain ⟨h0, h1, h2, h3, -, h5, h6⟩ := h
  have e : ∀ a, a < 30 ∨ 33 ≤ a → _ := fun a ha => f1 a (by simp; omega)
  refine ⟨h0, ?_, h2.fr (fun a ha => e a (by omega)), ?_, ?_, ?_, ?_⟩
  · exact h1.fr (e _ (by decide)) (e _ (by decide)) (e _ (by decide)) (e _ (by decide)) (e _ (by decide)) (fun x hx => e x (by have := hx.1; omega))
  · rw [e 9 (by decide), e 10 (by decide)]; exact h3
  · refine ⟨(nx + 1) % 16, by omega, by rw [upd2_ne _ _ _ _ (by omega), upd2_self], by rw [upd2_self]; rfl, fun i en hi => ?_⟩
    have hi : (pushU A.2.2.2.1 k A.1.1)[i]? = some en := hi
    rw [pushU_at] at hi
    split at hi
    · rename_i i16
      rw [upd2_off _ _ _ _ (show 32 ≠ 30 by decide), upd2_off _ _ _ _ (show 32 ≠ 30 by decide), upd2_rw, upd2_off _ _ _ _ (show 31 ≠ 30 by decide), upd2_off _ _ _ _ (show 31 ≠ 30 by decide), upd2_off _ _ _ _ (show 31 ≠ 32 by decide), upr_self, upr_off _ _ _ (show 32 ≠ 31 by decide)]
      split at hi
      · rename_i i0
        cases hi
        subst i0
        rw [show ((nx + 1) % 16 + 15 - 0) % 16 = nx by omega, pu_s]
        refine ⟨rfl, fun j hj => ?_⟩
        rw [pk_cpy_in (by omega) (by omega), show 0 + (nx * 59 + j - nx * 59) = j by omega]
        exact h1.1 j hj
      · rename_i i0
        have hl : i - 1 < A.2.2.2.1.length := by
          rcases Nat.lt_or_ge (i - 1) A.2.2.2.1.length with q | q
          · exact q
          · rw [List.getElem?_eq_none q] at hi; cases hi
        have hq := l4 (i - 1) en hi
        rw [show ((nx + 1) % 16 + 15 - i) % 16 = (nx + 15 - (i - 1)) % 16 by omega, pu_n _ _ _ (by omega)]
        refine ⟨hq.1, fun j hj => ?_⟩
        rw [pk_cpy_out (by omega)]
        exact hq.2 j hj
    · cases hi
  · rw [e 41 (by decide)]; exact h5
  · unfold miscC; rw [e 11 (by decide), e 0 (by decide), e 45 (by decide)]; exact h6
/-- undo -/
def sp_undo (A : St) : Int32 × St := match A.2.2.2.1 with
  | [] => rfs 2 A
  | e :: r => (e.1, stS (stU (stF A e.2) r) (nI 0))
theorem C_undo : CSpec 140 [] sp_undo := by
  intro X hX d im lw tl iv lv A h ho
  show CR' im lw tl iv lv _ _
  obtain ⟨nx, l1, l2, l3, l4⟩ := h.2.2.2.2.1
  have lu := ho.2.2.2.1
  unfold sp_undo
  rw [tr140, tr141, l3]
  cases hU : A.2.2.2.1 with
  | nil =>
    rw [if_pos (by decide), bI_some, sg140_14, if_pos rfl]
    exact crf h (i := 2) (by decide) (by rw [c_rf2 hX, bI_some, sg140_26, sg140_34])
  | cons e r =>
    rw [hU] at l3 l4 lu
    have lr : r.length + 1 ≤ 16 := lu.1
    have lc : (e :: r).length = r.length + 1 := rfl
    rw [lc, if_neg (nI_ne0 (by omega) (by omega)), l2, nI_add, show nI (nx + 16) - nI 1 = nI (nx + 15) by rw [pk_sub (by omega)]; rfl, pk_rem (by omega) (by omega) (by omega), show nI (r.length + 1) - nI 1 = nI r.length by rw [pk_sub (by omega)]; rfl, tr142c2_31, if_neg (nI_pos (by omega)), sd, if_neg (nI_ge (show (nx + 15) % 16 < 16 by omega) (by omega)), pk_mul, xcopy_ok _ lv (nb := 944) (na := 59) rfl rfl (by omega) (by omega) (by omega) (by omega), sg142_28c2_31, bV_some, sg141_47]
    have hq := l4 0 e rfl
    rw [Nat.sub_zero] at hq
    have k1 : ((nx + 15) % 16) < 16 := by omega
    obtain ⟨kk, hk3, hke⟩ := (lu.2 e (by simp)).2.2
    have u31 : ∀ (x y : Int32), (upd2 (upd2 iv 30 2 x) 30 3 y) 31 = iv 31 := fun x y => by rw [upd2_off _ _ _ _ (by decide), upd2_off _ _ _ _ (by decide)]
    have u3 : ∀ (x y : Int32), (upd2 (upd2 iv 30 2 x) 30 3 y) 3 = iv 3 := fun x y => by rw [upd2_off _ _ _ _ (by decide), upd2_off _ _ _ _ (by decide)]
    rw [u31, u3, upr_off _ _ _ (show 30 ≠ 3 by decide), upd2_ne _ _ _ _ (show ¬ (30 = 30 ∧ 2 = 3) by omega), upd2_self, if_pos (inb_nI k1 (by omega)), nI_clamp (by omega), upr_off _ _ _ (show 32 ≠ 3 by decide), upd2_off _ _ _ _ (show 32 ≠ 30 by decide), upd2_off _ _ _ _ (show 32 ≠ 30 by decide), hq.1, bI_some, sg140_14, hke, if_neg (nI_m1 (by omega)), tr22, bI_some, sg140_34]
    have hlog : RelC (stU A r) im lw tl (upd2 (upd2 iv 30 2 (nI ((nx + 15) % 16))) 30 3 (nI r.length)) := by
      have f1 : fr [30] iv (upd2 (upd2 iv 30 2 (nI ((nx + 15) % 16))) 30 3 (nI r.length)) := (fr_upd _ _ _ (by simp)).tr (fr_upd _ _ _ (by simp))
      obtain ⟨h0, h1, h2, h3, -, h5, h6⟩ := h
      have ee : ∀ a, a ≠ 30 → _ := fun a ha => f1 a (by simp [ha])
      refine ⟨h0, ?_, h2.fr (fun a ha => ee a (by omega)), ?_, ?_, ?_, ?_⟩
      · exact h1.fr (ee _ (by decide)) (ee _ (by decide)) (ee _ (by decide)) (ee _ (by decide)) (ee _ (by decide)) (fun x hx => ee x (by have := hx.1; omega))
      · rw [ee 9 (by decide), ee 10 (by decide)]; exact h3
      · refine ⟨(nx + 15) % 16, k1, by rw [upd2_ne _ _ _ _ (by omega), upd2_self], by rw [upd2_self]; rfl, fun i en hi => ?_⟩
        have hi : r[i]? = some en := hi
        have il : i < r.length := by
          rcases Nat.lt_or_ge i r.length with q | q
          · exact q
          · rw [List.getElem?_eq_none q] at hi; cases hi
        have := l4 (i + 1) en (by simpa using hi)
        rw [show ((nx + 15) % 16 + 15 - i) % 16 = (nx + 15 - (i + 1)) % 16 by omega, ee 31 (by decide), ee 32 (by decide)]
        exact this
      · rw [ee 41 (by decide)]; exact h5
      · unfold miscC; rw [ee 11 (by decide), ee 0 (by decide), ee 45 (by decide)]; exact h6
    refine ⟨_, lv, by rw [← hke], RelC.st (RelC.sc hlog (f := e.2) (fun j hj => ?_)) _, ?_, midL.rf⟩
    · rw [pk_cpy_in (by omega) (by omega)]
      exact hq.2 j hj
    · exact ((((mid_upd _ _ _ (by decide)).tr (mid_upd _ _ _ (by decide))).tr (mid_upr _ _ (by decide)))).tr (mid_upd _ _ _ (by decide))
/-- keepAll, putBack -/
theorem m_keepAll_loop (X : XE) (d : Nat) (im lw : List (Option Nat)) (tl : List XC) (lv : Nat → Nat → Int64) {k : Nat} (hk : k ≤ 17) : ∀ (m i : Nat) (iv : Nat → Nat → Int32), i + m = 53 → ∃ g, run X (call X xT d) false 0 xc268 2 [some (.inr (.inr (some 46))), some (.inl (nI k)), some (.inl (nI i))] [] (SS im lw tl, iv, lv) = some (none, (SS im lw tl, upr iv 51 g, lv)) ∧ (∀ j, i ≤ j → j < 53 → g (53 * k + j) = iv 48 (5 + j)) ∧ (∀ x, (x < 53 * k + i ∨ 53 * k + 53 ≤ x) → g x = iv 51 x) := by
  intro m
  induction m with
  | zero =>
    intro i iv hi
    rw [sg268_2, if_pos (nI_le (by omega) (by omega))]
    exact ⟨iv 51, by rw [upr_id], fun j _ _ => by omega, fun _ _ => rfl⟩
  | succ m ih =>
    intro i iv hi
    rw [sg268_2, if_neg (nI_ge (show i < 53 by omega) (by omega)), nI_add, if_pos (ib5k (by omega)), pk_mul, nI_add, if_pos (inb_nI (by omega) (by omega)), nI_clamp (by omega), nI_clamp (by omega), nI_add]
    obtain ⟨g, g1, g2, g3⟩ := ih (i + 1) (upd2 iv 51 (53 * k + i) (iv 48 (5 + i))) (by omega)
    refine ⟨g, ?_, fun j h1 h2 => ?_, fun x hx => ?_⟩
    · rw [g1, upd2_as, upr_upr]
    · by_cases e : j = i
      · subst e; rw [g3 _ (by omega), upd2_self]
      · rw [g2 j (by omega) h2, upd2_ne _ _ _ _ (by omega)]
    · rw [g3 x (by omega), upd2_ne _ _ _ _ (by omega)]
theorem m_keepAll (X : XE) (d : Nat) (im lw : List (Option Nat)) (tl : List XC) (iv : Nat → Nat → Int32) (lv : Nat → Nat → Int64) {k : Nat} (hk : k ≤ 17) : ∃ g, call X xT (d + 1) 268 [.inr (.inr (some 46)), .inl (nI k)] (SS im lw tl, iv, lv) = some (none, (SS im lw tl, upr iv 51 g, lv)) ∧ (∀ j, j < 53 → g (53 * k + j) = iv 48 (5 + j)) ∧ (∀ x, (x < 53 * k ∨ 53 * k + 53 ≤ x) → g x = iv 51 x) := by
  rw [tr268]
  obtain ⟨g, g1, g2, g3⟩ := m_keepAll_loop X d im lw tl lv hk 53 0 iv (by omega)
  exact ⟨g, g1, fun j hj => g2 j (by omega) hj, fun x hx => g3 x (by omega)⟩
theorem m_putBack_loop (X : XE) (d : Nat) (im lw : List (Option Nat)) (tl : List XC) (lv : Nat → Nat → Int64) {k : Nat} (hk : k ≤ 17) : ∀ (m i : Nat) (iv : Nat → Nat → Int32), i + m = 53 → ∃ g, run X (call X xT d) false 0 xc199 2 [some (.inr (.inr (some 46))), some (.inl (nI k)), some (.inl (nI i))] [] (SS im lw tl, iv, lv) = some (none, (SS im lw tl, upr iv 48 g, lv)) ∧ (∀ j, i ≤ j → j < 53 → g (5 + j) = iv 51 (53 * k + j)) ∧ (∀ x, (x < 5 + i ∨ 58 ≤ x) → g x = iv 48 x) := by
  intro m
  induction m with
  | zero =>
    intro i iv hi
    rw [sg199_2, if_pos (nI_le (by omega) (by omega))]
    exact ⟨iv 48, by rw [upr_id], fun j _ _ => by omega, fun _ _ => rfl⟩
  | succ m ih =>
    intro i iv hi
    rw [sg199_2, if_neg (nI_ge (show i < 53 by omega) (by omega)), pk_mul, nI_add, if_pos (inb_nI (by omega) (by omega)), nI_add, if_pos (ib5k (by omega)), nI_clamp (by omega), nI_clamp (by omega), nI_add]
    obtain ⟨g, g1, g2, g3⟩ := ih (i + 1) (upd2 iv 48 (5 + i) (iv 51 (53 * k + i))) (by omega)
    refine ⟨g, ?_, fun j h1 h2 => ?_, fun x hx => ?_⟩
    · rw [g1, upd2_as, upr_upr]
    · by_cases e : j = i
      · subst e; rw [g3 _ (by omega), upd2_self]
      · rw [g2 j (by omega) h2, upd2_ne _ _ _ _ (by omega)]
    · rw [g3 x (by omega), upd2_ne _ _ _ _ (by omega)]
theorem m_putBack (X : XE) (d : Nat) (im lw : List (Option Nat)) (tl : List XC) (iv : Nat → Nat → Int32) (lv : Nat → Nat → Int64) {k : Nat} (hk : k ≤ 17) : ∃ g, call X xT (d + 1) 199 [.inr (.inr (some 46)), .inl (nI k)] (SS im lw tl, iv, lv) = some (none, (SS im lw tl, upr iv 48 g, lv)) ∧ (∀ j, j < 53 → g (5 + j) = iv 51 (53 * k + j)) ∧ (∀ x, (x < 5 ∨ 58 ≤ x) → g x = iv 48 x) := by
  rw [tr199]
  obtain ⟨g, g1, g2, g3⟩ := m_putBack_loop X d im lw tl lv hk 53 0 iv (by omega)
  exact ⟨g, g1, fun j hj => g2 j (by omega) hj, fun x hx => g3 x (by omega)⟩
theorem mx_ux {j : Nat} (h : j < 53) : mx (ux j) = 5 + j := by
  unfold mx ux
  repeat' split
  all_goals omega
theorem ux_lt {j : Nat} (h : j < 53) : ux j < 59 := by unfold ux; split <;> omega
theorem ux_of {i : Nat} (h : i < 59) (h1 : i ≠ 0) (h2 : i ≠ 1) (h3 : i < 23 ∨ 27 ≤ i) : ∃ j, j < 53 ∧ ux j = i := by
  by_cases c : i < 23
  · exact ⟨i - 2, by omega, by unfold ux; rw [if_pos (by omega)]; omega⟩
  · exact ⟨i - 6, by omega, by unfold ux; rw [if_neg (by omega)]; omega⟩
theorem row_ux {g f : Sc} (h : eqS f (fM g)) {j : Nat} (hj : j < 53) : g (5 + j) = f (ux j) := by rw [h _ (ux_lt hj), fM, mx_ux hj]
/-- a scene put back into the row -/
theorem eqS_back {g g' f e : Sc} (h : eqS f (fM g)) (hs : statE f e) (h1 : ∀ j, j < 53 → g' (5 + j) = e (ux j)) (h2 : ∀ x, (x < 5 ∨ 58 ≤ x) → g' x = g x) : eqS e (fM g') ∧ rowS g g' := by
  refine ⟨fun i hi => ?_, fun i hi => h2 i (by omega)⟩
  by_cases c0 : i = 0
  · subst c0; rw [hs.1, h 0 (by omega)]; exact (h2 0 (by omega)).symm
  by_cases c1 : i = 1
  · subst c1; rw [hs.2.1, h 1 (by omega)]; exact (h2 1 (by omega)).symm
  by_cases c2 : i < 23 ∨ 27 ≤ i
  · obtain ⟨j, hj, rfl⟩ := ux_of hi c0 c1 c2
    rw [fM, mx_ux hj, h1 j hj]
  · obtain ⟨t, rfl⟩ : ∃ t, i = 23 + t := ⟨i - 23, by omega⟩
    rw [hs.2.2 t (by omega), h _ hi, fM, fM, mx_n (by omega), h2 _ (by omega)]
theorem M_undo : MSpec 197 [] sp_undo := by
  intro X d im lw tl iv lv A h ho
  show MR' im lw tl iv _ _
  have h0 := h.thr (nI 0)
  have lu := ho.2.2.2.1
  obtain ⟨l1, l2⟩ := h.2.2.2.1
  unfold sp_undo
  rw [tr197, l1]
  cases hU : A.2.2.2.1 with
  | nil =>
    rw [if_pos (by decide)]
    exact mrf h0 (out0 iv) (i := 2) (by decide) (by rw [m_rf2, bI_some, sg197_18])
  | cons e r =>
    rw [hU] at l1 l2 lu
    have lr : r.length + 1 ≤ 16 := lu.1
    have lc : (e :: r).length = r.length + 1 := rfl
    obtain ⟨kk, hk3, hke⟩ := (lu.2 e (by simp)).2.2
    have hq := l2 0 e rfl
    rw [lc, show r.length + 1 - 1 - 0 = r.length by omega] at hq
    rw [lc, if_neg (nI_ne0 (by omega) (by omega)), show nI (r.length + 1) - nI 1 = nI r.length by rw [pk_sub (by omega)]; rfl]
    obtain ⟨g, g1, g2, g3⟩ := m_putBack X (d + 38) im lw tl (upd2 (upd2 iv 46 0 (nI 0)) 46 8 (nI r.length)) lv (k := r.length) (by omega)
    have u51 : (upd2 (upd2 iv 46 0 (nI 0)) 46 8 (nI r.length)) 51 = iv 51 := by rw [upd2_off _ _ _ _ (by decide), upd2_off _ _ _ _ (by decide)]
    have u48 : (upd2 (upd2 iv 46 0 (nI 0)) 46 8 (nI r.length)) 48 = iv 48 := by rw [upd2_off _ _ _ _ (by decide), upd2_off _ _ _ _ (by decide)]
    rw [u51] at g2
    rw [u48] at g3
    rw [g1, bV_some, sg197_37, upr_off _ _ _ (show 46 ≠ 48 by decide), upd2_self, if_pos (inb_nI (by omega) (by omega)), nI_clamp (by omega), upr_off _ _ _ (show 52 ≠ 48 by decide), upd2_off _ _ _ _ (show 52 ≠ 46 by decide), upd2_off _ _ _ _ (show 52 ≠ 46 by decide), hq.1, hke, m_tellP X _ im lw tl _ lv (nI_p0 (by omega)), bI_some, sg197_50]
    obtain ⟨eb1, eb2⟩ := eqS_back (e := e.2) h.1.1 (lu.2 e (by simp)).2.1 (fun j hj => (g2 j hj).trans (hq.2 j hj)) g3
    have hlog : RelM (stU A r) (upd2 (upd2 iv 46 0 (nI 0)) 46 8 (nI r.length)) lv := by
      have c : ∀ a, a ≠ 46 → (upd2 (upd2 iv 46 0 (nI 0)) 46 8 (nI r.length)) a = iv a := fun a ha => by rw [upd2_off _ _ _ _ ha, upd2_off _ _ _ _ ha]
      have f : ∀ k, k ≠ 0 → k ≠ 8 → (upd2 (upd2 iv 46 0 (nI 0)) 46 8 (nI r.length)) 46 k = iv 46 k := fun k h1 h2 => by rw [upd2_ne _ _ _ _ (by omega), upd2_ne _ _ _ _ (by omega)]
      obtain ⟨h1, h2, h3, -, h5, h6, h7, h8⟩ := h
      refine ⟨?_, ?_, ?_, ?_, ?_, ?_, ?_, h8⟩
      · rw [c 48 (by simp)]; exact h1
      · unfold imgsM; rw [c 49 (by simp), c 50 (by simp)]; exact h2
      · rw [f 13 (by simp) (by simp), c 55 (by simp)]; exact h3
      · refine ⟨by rw [upd2_self]; rfl, fun i en hi => ?_⟩
        have hi : r[i]? = some en := hi
        have il : i < r.length := by
          rcases Nat.lt_or_ge i r.length with q | q
          · exact q
          · rw [List.getElem?_eq_none q] at hi; cases hi
        have := l2 (i + 1) en (by simpa using hi)
        rw [lc, show r.length + 1 - 1 - (i + 1) = r.length - 1 - i by omega] at this
        rw [c 51 (by decide), c 52 (by decide)]
        exact this
      · unfold drawnM; rw [f 58 (by simp) (by simp), f 59 (by simp) (by simp), c 78 (by simp)]; exact h5
      · unfold miscM; rw [f 18 (by simp) (by simp), f 54 (by simp) (by simp), f 11 (by simp) (by simp), f 1 (by simp) (by simp), c 47 (by simp)]; exact h6
      · rw [f 20 (by simp) (by simp)]; exact h7
    refine ⟨_, lv, by rw [← hke], RelM.st (RelM.sc hlog (f := e.2) (iv' := upr (upd2 (upd2 iv 46 0 (nI 0)) 46 8 (nI r.length)) 48 g) ?_ ?_ ?_ hlog.c) _, ?_⟩
    · rw [upr_self]; exact eb1
    · rw [upr_self, u48]; exact eb2
    · intro a k q
      rw [upr_off _ _ _ (by rcases q with q | ⟨q, r⟩ <;> simp at * <;> omega)]
    · exact (((out0 iv).tr (out_upd _ _ _ (by decide) (by decide))).tr (fun a ha => upr_off _ _ _ (by omega))).tr (out_upd _ _ _ (by decide) (by decide))
theorem st_nP {f g : Sc} (h : statE f g) : nP g = nP f := by unfold nP; rw [h.1]
theorem st_nT {f g : Sc} (h : statE f g) : nT g = nT f := by unfold nT; rw [h.2.1]
theorem statE.sy {f g : Sc} (h : statE f g) : statE g f := ⟨h.1.symm, h.2.1.symm, fun t ht => (h.2.2 t ht).symm⟩
theorem statE.tr {f g k : Sc} (h : statE f g) (h2 : statE g k) : statE f k := ⟨h2.1.trans h.1, h2.2.1.trans h.2.1, fun t ht => (h2.2.2 t ht).trans (h.2.2 t ht)⟩
/-- another scene with the same provinces, tamers, nerves -/
theorem OKA.sc {A : St} (h : OKA A) {f : Sc} (hf : okF f) (hs : statE A.1.1 f) {U : List (Int32 × Sc)} (hU : okU A.1.1 U) : OKA (stU (stF A f) U) := by
  obtain ⟨a1, a2, a3, a4, a5⟩ := h
  exact ⟨okW_f a1 hf (by rw [st_nP hs]; exact Nat.le_refl _) (by rw [st_nT hs]; exact Nat.le_refl _), a2, a3, ⟨hU.1, fun e he => ⟨(hU.2 e he).1, hs.sy.tr (hU.2 e he).2.1, (hU.2 e he).2.2⟩⟩, a5⟩
theorem O_undo : ∀ A, OKA A → OKA (sp_undo A).2 := by
  intro A h
  unfold sp_undo
  cases hU : A.2.2.2.1 with
  | nil => exact h
  | cons e r =>
    have lu := h.2.2.2.1
    rw [hU] at lu
    have l1 : r.length + 1 ≤ 16 := lu.1
    exact OKA.sc h (lu.2 e (by simp)).1 (lu.2 e (by simp)).2.1 (U := r) ⟨by omega, fun x hx => lu.2 x (by simp [hx])⟩
theorem S_undo : stepOK 140 197 [] := step_of C_undo M_undo O_undo
