/-! a day in the reference -/
theorem wd_pu_g (f : Nat → Int32) (v : Int32) {q p : Nat} (h : q ≠ p) (hq : q < 6) (hp : p < 6) : wd (pu f (5 + q) v) none (some p) = wd f none (some p) := by
  funext k
  match k with
  | 0 => rfl
  | 1 => rfl
  | 2 => exact pu_n _ _ _ (by omega)
  | 3 => exact pu_n _ _ _ (by omega)
  | 4 => rfl
  | 5 => rfl
  | 6 => rfl
  | 7 => exact pu_n _ _ _ (by omega)
  | 8 => exact pu_n _ _ _ (by omega)
  | 9 => exact pu_n _ _ _ (by omega)
  | k + 10 => rfl
theorem wd_pu_p (f : Nat → Int32) (v : Int32) {q p : Nat} (h : q ≠ p) (hq : q < 4) (hp : p < 4) : wd (pu f (27 + q) v) (some p) none = wd f (some p) none := by
  funext k
  match k with
  | 0 => rfl
  | 1 => rfl
  | 2 => rfl
  | 3 => rfl
  | 4 => rfl
  | 5 => exact pu_n _ _ _ (by omega)
  | 6 => exact pu_n _ _ _ (by omega)
  | 7 => rfl
  | 8 => exact pu_n _ _ _ (by omega)
  | 9 => exact pu_n _ _ _ (by omega)
  | k + 10 => rfl
theorem growF_at (cl : Nat → CL) (n : Nat) : ∀ (m q : Nat) (f : Nat → Int32) (p : Nat), q + m ≤ 6 → q ≤ p → p < q + m → growF cl n m q f (5 + p) = near (nI 9) (f (5 + p) + growV f cl n p) := by
  intro m
  induction m with
  | zero => intro q f p _ _ _; omega
  | succ m ih =>
    intro q f p hq h1 h2
    simp only [growF]
    by_cases e : q = p
    · subst e
      rw [growF_off _ _ _ _ _ _ (by omega), pu_s]
    · rw [ih _ _ _ (by omega) (by omega) (by omega), pu_n _ _ _ (by omega)]
      unfold growV
      rw [wd_pu_g _ _ e (by omega) (by omega)]
theorem payF_at (cl : Nat → CL) (n : Nat) : ∀ (m q : Nat) (f : Nat → Int32) (p : Nat), q + m ≤ 4 → q ≤ p → p < q + m → payF cl n m q f (27 + p) = near (nI 99) (f (27 + p) + wageV f cl n p) := by
  intro m
  induction m with
  | zero => intro q f p _ _ _; omega
  | succ m ih =>
    intro q f p hq h1 h2
    simp only [payF]
    by_cases e : q = p
    · subst e
      rw [payF_off _ _ _ _ _ _ (by omega), pu_s]
    · rw [ih _ _ _ (by omega) (by omega) (by omega), pu_n _ _ _ (by omega)]
      unfold wageV
      rw [wd_pu_p _ _ e (by omega) (by omega)]
theorem wage_grow (cl : Nat → CL) (n m : Nat) (hm : m ≤ 6) (f : Nat → Int32) {t : Nat} (ht : t < 4) : wageV (growF cl n m 0 f) cl n t = wageV f cl n t := by
  have e : wd (growF cl n m 0 f) (some t) none = wd f (some t) none := by
    funext k
    match k with
    | 0 => rfl
    | 1 => rfl
    | 2 => rfl
    | 3 => rfl
    | 4 => rfl
    | 5 => exact growF_off _ _ _ _ _ _ (by omega)
    | 6 => exact growF_off _ _ _ _ _ _ (by omega)
    | 7 => rfl
    | 8 => exact growF_off _ _ _ _ _ _ (by omega)
    | 9 => exact growF_off _ _ _ _ _ _ (by omega)
    | k + 10 => rfl
  unfold wageV
  rw [e]
/-- a day, place by place -/
theorem dayF_h (cl : Nat → CL) (n np nt : Nat) (h1 : np ≤ 6) (h2 : nt ≤ 4) (f : Nat → Int32) {p : Nat} (hp : p < np) : dayF cl n np nt f (5 + p) = near (nI 9) (f (5 + p) + growV f cl n p) := by
  unfold dayF
  rw [pu_n _ _ _ (by omega), payF_off _ _ _ _ _ _ (by omega), growF_at _ _ _ _ _ _ (by omega) (by omega) (by omega)]
theorem dayF_m (cl : Nat → CL) (n np nt : Nat) (h1 : np ≤ 6) (h2 : nt ≤ 4) (f : Nat → Int32) {p : Nat} (hp : p < nt) : dayF cl n np nt f (27 + p) = near (nI 99) (f (27 + p) + wageV f cl n p) := by
  unfold dayF
  rw [pu_n _ _ _ (by omega), payF_at _ _ _ _ _ _ (by omega) (by omega) (by omega), growF_off _ _ _ _ _ _ (by omega), wage_grow _ _ _ h1 _ (by omega)]
theorem dayF_d (cl : Nat → CL) (n np nt : Nat) (h1 : np ≤ 6) (h2 : nt ≤ 4) (f : Nat → Int32) : dayF cl n np nt f 2 = near (nI 999) (f 2 + nI 1) := by
  unfold dayF
  rw [pu_s, payF_off _ _ _ _ _ _ (by omega), growF_off _ _ _ _ _ _ (by omega)]
theorem dayF_off (cl : Nat → CL) (n np nt : Nat) (h1 : np ≤ 6) (h2 : nt ≤ 4) (f : Nat → Int32) {j : Nat} (e1 : j ≠ 2) (e2 : j < 5 ∨ 5 + np ≤ j) (e3 : j < 27 ∨ 27 + nt ≤ j) : dayF cl n np nt f j = f j := by
  unfold dayF
  rw [pu_n _ _ _ e1, payF_off _ _ _ _ _ _ (by omega), growF_off _ _ _ _ _ _ (by omega)]
theorem m_pass1 (X : XE) (d : Nat) (im lw : List (Option Nat)) (tl : List XC) {cl : Nat → CL} {n np : Nat} (hn : np ≤ 6) {f : Nat → Int32} : ∀ (m q : Nat) (iv : Nat → Nat → Int32) (lv : Nat → Nat → Int64), q + m = np → iv 46 20 = nI 0 → lawG (iv 48) cl n → iv 48 0 = nI np → eqS f (fM (iv 48)) →
    ∃ iv' lv', run X (call X xT (d + 5)) false 0 xc278 2 [some (.inr (.inr (some 46))), some (.inl (nI q))] [] (SS im lw tl, iv, lv) = run X (call X xT (d + 5)) false 0 xc278 31 [some (.inr (.inr (some 46))), some (.inl (nI 0))] [] (SS im lw tl, iv', lv') ∧ (∀ p, q ≤ p → p < np → iv' 67 p = growV f cl n p) ∧ (∀ p, p < q → iv' 67 p = iv 67 p) ∧ iv' 48 = iv 48 ∧ frG [67] iv iv' ∧ agN lv lv' := by
  intro m
  induction m with
  | zero =>
    intro q iv lv hq h20 hl h0 he
    rw [sg278_2, h0, if_pos (nI_le (by omega) (by omega))]
    exact ⟨iv, lv, rfl, fun p h1 h2 => by omega, fun _ _ => rfl, rfl, frG.rf, agN.rf⟩
  | succ m ih =>
    intro q iv lv hq h20 hl h0 he
    obtain ⟨iv1, lv1, g1, g2, g3⟩ := m_hungers X d im lw tl iv lv h20 hl (p := q) (by omega)
    rw [← growV_eq he cl n (by omega)] at g1
    have r1 : iv1 48 = iv 48 := g2.row (by decide)
    obtain ⟨iv2, lv2, k1, k2, k3, k4, k5, k6⟩ := ih (q + 1) (upd2 iv1 67 q (growV f cl n q)) lv1 (by omega) (by rw [upd2_ne _ _ _ _ (by omega), g2 46 20 (by omega)]; exact h20) (by rw [upd2_off _ _ _ _ (by decide), r1]; exact hl) (by rw [upd2_ne _ _ _ _ (by omega), r1]; exact h0) (by rw [upd2_off _ _ _ _ (by decide), r1]; exact he)
    refine ⟨iv2, lv2, ?_, ?_, ?_, ?_, ?_, g3.tr k6⟩
    · rw [sg278_2, h0, if_neg (nI_ge (show q < np by omega) (by omega)), g1, bI_some, sg278_22, if_pos (inb_nI (by omega) (by omega)), nI_clamp (by omega), nI_add]
      exact k1
    · intro p h1 h2
      by_cases e : p = q
      · subst e; rw [k3 p (by omega), upd2_self]
      · exact k2 p (by omega) h2
    · intro p h1
      rw [k3 p (by omega), upd2_ne _ _ _ _ (by omega), g2.row (by decide)]
    · rw [k4, upd2_off _ _ _ _ (by decide), r1]
    · exact (g2.G.tr (fr_upd _ _ _ (by simp)).G).tr k5
theorem m_pass2 (X : XE) (d : Nat) (im lw : List (Option Nat)) (tl : List XC) {cl : Nat → CL} {n nt : Nat} (hn : nt ≤ 4) {f : Nat → Int32} : ∀ (m q : Nat) (iv : Nat → Nat → Int32) (lv : Nat → Nat → Int64), q + m = nt → iv 46 20 = nI 0 → lawG (iv 48) cl n → iv 48 1 = nI nt → eqS f (fM (iv 48)) →
    ∃ iv' lv', run X (call X xT (d + 5)) false 0 xc278 31 [some (.inr (.inr (some 46))), some (.inl (nI q))] [] (SS im lw tl, iv, lv) = run X (call X xT (d + 5)) false 0 xc278 60 [some (.inr (.inr (some 46))), some (.inl (nI 0))] [] (SS im lw tl, iv', lv') ∧ (∀ p, q ≤ p → p < nt → iv' 68 p = wageV f cl n p) ∧ (∀ p, p < q → iv' 68 p = iv 68 p) ∧ iv' 48 = iv 48 ∧ iv' 67 = iv 67 ∧ frG [68] iv iv' ∧ agN lv lv' := by
  intro m
  induction m with
  | zero =>
    intro q iv lv hq h20 hl h0 he
    rw [sg278_31, h0, if_pos (nI_le (by omega) (by omega))]
    exact ⟨iv, lv, rfl, fun p h1 h2 => by omega, fun _ _ => rfl, rfl, rfl, frG.rf, agN.rf⟩
  | succ m ih =>
    intro q iv lv hq h20 hl h0 he
    obtain ⟨iv1, lv1, g1, g2, g3⟩ := m_pays X d im lw tl iv lv h20 hl (t := q) (by omega)
    rw [← wageV_eq he cl n (by omega)] at g1
    have r1 : iv1 48 = iv 48 := g2.row (by decide)
    obtain ⟨iv2, lv2, k1, k2, k3, k4, k7, k5, k6⟩ := ih (q + 1) (upd2 iv1 68 q (wageV f cl n q)) lv1 (by omega) (by rw [upd2_ne _ _ _ _ (by omega), g2 46 20 (by omega)]; exact h20) (by rw [upd2_off _ _ _ _ (by decide), r1]; exact hl) (by rw [upd2_ne _ _ _ _ (by omega), r1]; exact h0) (by rw [upd2_off _ _ _ _ (by decide), r1]; exact he)
    refine ⟨iv2, lv2, ?_, ?_, ?_, ?_, ?_, ?_, g3.tr k6⟩
    · rw [sg278_31, h0, if_neg (nI_ge (show q < nt by omega) (by omega)), g1, bI_some, sg278_51, if_pos (inb_nI (by omega) (by omega)), nI_clamp (by omega), nI_add]
      exact k1
    · intro p h1 h2
      by_cases e : p = q
      · subst e; rw [k3 p (by omega), upd2_self]
      · exact k2 p (by omega) h2
    · intro p h1
      rw [k3 p (by omega), upd2_ne _ _ _ _ (by omega), g2.row (by decide)]
    · rw [k4, upd2_off _ _ _ _ (by decide), r1]
    · rw [k7, upd2_off _ _ _ _ (by decide), g2.row (by decide)]
    · exact (g2.G.tr (fr_upd _ _ _ (by simp)).G).tr k5
/-- hungers of m provinces from q on, each grown by a row -/
def addF (a top : Nat) (x : Nat → Int32) : Nat → Nat → (Nat → Int32) → (Nat → Int32)
  | 0, _, f => f
  | m + 1, q, f => addF a top x m (q + 1) (pu f (a + q) (near (nI top) (f (a + q) + x q)))
theorem addF_off (a top : Nat) (x : Nat → Int32) : ∀ (m q : Nat) (f : Nat → Int32) (j : Nat), (j < a + q ∨ a + q + m ≤ j) → addF a top x m q f j = f j := by
  intro m
  induction m with
  | zero => intro q f j _; rfl
  | succ m ih => intro q f j hj; simp only [addF]; rw [ih _ _ _ (by omega), pu_n _ _ _ (by omega)]
theorem addF_at (a top : Nat) (x : Nat → Int32) : ∀ (m q : Nat) (f : Nat → Int32) (p : Nat), q ≤ p → p < q + m → addF a top x m q f (a + p) = near (nI top) (f (a + p) + x p) := by
  intro m
  induction m with
  | zero => intro q f p _ _; omega
  | succ m ih =>
    intro q f p h1 h2
    simp only [addF]
    by_cases e : q = p
    · subst e
      rw [addF_off _ _ _ _ _ _ _ (by omega), pu_s]
    · rw [ih _ _ _ (by omega) (by omega), pu_n _ _ _ (by omega)]
theorem m_pass3 (X : XE) (d : Nat) (im lw : List (Option Nat)) (tl : List XC) (lv : Nat → Nat → Int64) {np : Nat} (hn : np ≤ 6) {x : Nat → Int32} : ∀ (m q : Nat) (iv : Nat → Nat → Int32) (f : Nat → Int32), q + m = np → iv 48 0 = nI np → (∀ p, p < np → iv 67 p = x p) → eqS f (fM (iv 48)) →
    ∃ iv', run X (call X xT (d + 1)) false 0 xc278 60 [some (.inr (.inr (some 46))), some (.inl (nI q))] [] (SS im lw tl, iv, lv) = run X (call X xT (d + 1)) false 0 xc278 110 [some (.inr (.inr (some 46))), some (.inl (nI 0))] [] (SS im lw tl, iv', lv) ∧ eqS (addF 5 9 x m q f) (fM (iv' 48)) ∧ rowS (iv 48) (iv' 48) ∧ fr [48] iv iv' := by
  intro m
  induction m with
  | zero =>
    intro q iv f hq h0 hx he
    rw [sg278_60, h0, if_pos (nI_le (by omega) (by omega))]
    exact ⟨iv, rfl, he, rowS.rf, fr.rf⟩
  | succ m ih =>
    intro q iv f hq h0 hx he
    have eh : iv 48 (8 + q) = f (5 + q) := by rw [he (5 + q) (by omega), fM, mx_h (by omega)]
    obtain ⟨iv', g1, g2, g3, g4⟩ := ih (q + 1) (upd2 iv 48 (mx (5 + q)) (near (nI 9) (f (5 + q) + x q))) (pu f (5 + q) (near (nI 9) (f (5 + q) + x q))) (by omega) (by rw [upd2_rw, pu_n _ _ _ (by rw [mx_h (by omega)]; omega)]; exact h0) (fun p hp => by rw [upd2_off _ _ _ _ (by decide)]; exact hx p hp) (by rw [upd2_rw]; exact eqS_pu he (by omega) _)
    refine ⟨iv', ?_, g2, ?_, (fr_upd _ _ _ (by simp)).tr g4⟩
    · rw [sg278_60, h0, if_neg (nI_ge (show q < np by omega) (by omega)), nI_add, if_pos (ib5k (by omega)), if_pos (inb_nI (by omega) (by omega)), nI_clamp (by omega), nI_clamp (by omega), eh, hx q (by omega), m_within X d, bI_some, near_fit _ (by decide), sg278_101, if_pos (ib5k (by omega)), nI_clamp (by omega), nI_add, ← mx_h (show q < 6 by omega)]
      exact g1
    · rw [upd2_rw] at g3
      exact (rowS_pu _ (by omega) _).tr g3
theorem m_pass4 (X : XE) (d : Nat) (im lw : List (Option Nat)) (tl : List XC) (lv : Nat → Nat → Int64) {nt : Nat} (hn : nt ≤ 4) {x : Nat → Int32} : ∀ (m q : Nat) (iv : Nat → Nat → Int32) (f : Nat → Int32), q + m = nt → iv 48 1 = nI nt → (∀ p, p < nt → iv 68 p = x p) → eqS f (fM (iv 48)) →
    ∃ iv', run X (call X xT (d + 1)) false 0 xc278 110 [some (.inr (.inr (some 46))), some (.inl (nI q))] [] (SS im lw tl, iv, lv) = some (none, (SS im lw tl, iv', lv)) ∧ eqS (pu (addF 27 99 x m q f) 2 (f 2 + nI 1)) (fM (iv' 48)) ∧ rowS (iv 48) (iv' 48) ∧ fr [48] iv iv' := by
  intro m
  induction m with
  | zero =>
    intro q iv f hq h0 hx he
    have e2 : iv 48 5 = f 2 := (he 2 (by omega)).symm
    rw [sg278_110, h0, if_pos (nI_le (by omega) (by omega)), e2]
    refine ⟨_, rfl, ?_, ?_, fr_upd _ _ _ (by simp)⟩
    · rw [upd2_rw]; exact eqS_pu (j := 2) he (by omega) _
    · rw [upd2_rw]; exact rowS_pu _ (j := 2) (by omega) _
  | succ m ih =>
    intro q iv f hq h0 hx he
    have eh : iv 48 (26 + q) = f (27 + q) := by rw [he (27 + q) (by omega), fM, mx_m (by omega)]
    obtain ⟨iv', g1, g2, g3, g4⟩ := ih (q + 1) (upd2 iv 48 (mx (27 + q)) (near (nI 99) (f (27 + q) + x q))) (pu f (27 + q) (near (nI 99) (f (27 + q) + x q))) (by omega) (by rw [upd2_rw, pu_n _ _ _ (by rw [mx_m (by omega)]; omega)]; exact h0) (fun p hp => by rw [upd2_off _ _ _ _ (by decide)]; exact hx p hp) (by rw [upd2_rw]; exact eqS_pu he (by omega) _)
    rw [pu_n _ _ _ (show 2 ≠ 27 + q by omega)] at g2
    refine ⟨iv', ?_, g2, ?_, (fr_upd _ _ _ (by simp)).tr g4⟩
    · rw [sg278_110, h0, if_neg (nI_ge (show q < nt by omega) (by omega)), nI_add, if_pos (ib5k (by omega)), if_pos (inb_nI (by omega) (by omega)), nI_clamp (by omega), nI_clamp (by omega), eh, hx q (by omega), m_within X d, bI_some, near_fit _ (by decide), sg278_151, if_pos (ib5k (by omega)), nI_clamp (by omega), nI_add, ← mx_m (show q < 4 by omega)]
      exact g1
    · rw [upd2_rw] at g3
      exact (rowS_pu _ (by omega) _).tr g3
/-- passIt -/
theorem m_passIt (X : XE) (d : Nat) (im lw : List (Option Nat)) (tl : List XC) (iv : Nat → Nat → Int32) (lv : Nat → Nat → Int64) (h20 : iv 46 20 = nI 0) {cl : Nat → CL} {n np nt : Nat} (hl : lawG (iv 48) cl n) {f : Nat → Int32} (he : eqS f (fM (iv 48))) (hn : np ≤ 6) (hn2 : nt ≤ 4) (h0 : f 0 = nI np) (h1 : f 1 = nI nt) {dy : Nat} (hd : f 2 = nI dy) (hdy : dy < 999) :
    ∃ iv' lv', call X xT (d + 6) 278 [.inr (.inr (some 46))] (SS im lw tl, iv, lv) = some (none, (SS im lw tl, iv', lv')) ∧ eqS (dayF cl n np nt f) (fM (iv' 48)) ∧ rowS (iv 48) (iv' 48) ∧ frG [48, 67, 68] iv iv' ∧ agN lv lv' := by
  have h0' : iv 48 0 = nI np := by rw [← h0]; exact (he 0 (by omega)).symm
  have h1' : iv 48 1 = nI nt := by rw [← h1]; exact (he 1 (by omega)).symm
  obtain ⟨iv1, lv1, a1, a2, -, a4, a5, a6⟩ := m_pass1 X d im lw tl (cl := cl) (n := n) hn (f := f) np 0 iv lv (by omega) h20 hl h0' he
  obtain ⟨iv2, lv2, b1, b2, -, b4, b7, b5, b6⟩ := m_pass2 X d im lw tl (cl := cl) (n := n) hn2 (f := f) nt 0 iv1 lv1 (by omega) (by rw [a5 46 20 (by simp) (by omega)]; exact h20) (by rw [a4]; exact hl) (by rw [a4]; exact h1') (by rw [a4]; exact he)
  obtain ⟨iv3, c1, c2, c3, c4⟩ := m_pass3 X (d + 4) im lw tl lv2 hn (x := fun p => growV f cl n p) np 0 iv2 f (by omega) (by rw [b4, a4]; exact h0') (fun p hp => by rw [b7]; exact a2 p (by omega) hp) (by rw [b4, a4]; exact he)
  obtain ⟨iv4, e1, e2, e3, e4⟩ := m_pass4 X (d + 4) im lw tl lv2 hn2 (x := fun p => wageV f cl n p) nt 0 iv3 (addF 5 9 (fun p => growV f cl n p) np 0 f) (by omega) (by
    have := c2 1 (by omega)
    rw [addF_off _ _ _ _ _ _ _ (by omega), h1] at this
    exact this.symm) (fun p hp => by rw [c4 68 (by simp)]; exact b2 p (by omega) hp) c2
  refine ⟨iv4, lv2, ?_, ?_, ?_, ?_, a6.tr b6⟩
  · rw [tr278, a1, b1, c1, e1]
  · refine eqS.tr ?_ e2
    intro j hj
    rw [addF_off _ _ _ _ _ _ 2 (by omega)]
    by_cases j2 : j = 2
    · subst j2
      rw [dayF_d _ _ _ _ hn hn2, pu_s, hd, nI_add]
      unfold near
      by_cases z : dy + 1 < 999
      · rw [if_pos (nI_lt z (by omega)), if_pos (nI_lt (by omega) (by omega))]
      · rw [if_neg (nI_nlt (by omega) (by omega)), if_pos (by decide)]
        rw [show dy + 1 = 999 by omega]
    · rw [pu_n _ _ _ j2]
      by_cases jh : 5 ≤ j ∧ j < 5 + np
      · obtain ⟨p, rfl⟩ : ∃ p, j = 5 + p := ⟨j - 5, by omega⟩
        rw [dayF_h _ _ _ _ hn hn2 _ (show p < np by omega), addF_off _ _ _ _ _ _ _ (by omega), addF_at _ _ _ _ _ _ _ (by omega) (by omega)]
      · by_cases jm : 27 ≤ j ∧ j < 27 + nt
        · obtain ⟨p, rfl⟩ : ∃ p, j = 27 + p := ⟨j - 27, by omega⟩
          rw [dayF_m _ _ _ _ hn hn2 _ (show p < nt by omega), addF_at _ _ _ _ _ _ _ (by omega) (by omega), addF_off _ _ _ _ _ _ _ (by omega)]
        · rw [dayF_off _ _ _ _ hn hn2 _ j2 (by omega) (by omega), addF_off _ _ _ _ _ _ _ (by omega), addF_off _ _ _ _ _ _ _ (by omega)]
  · rw [b4, a4] at c3
    exact c3.tr e3
  · exact ((a5.mo (by intro x hx; simp at hx; simp [hx])).tr (b5.mo (by intro x hx; simp at hx; simp [hx]))).tr (((c4.tr e4).G).mo (by intro x hx; simp at hx; simp [hx]))
