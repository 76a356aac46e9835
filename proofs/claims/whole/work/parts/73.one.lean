/-! calls: one -/
def mtV (dd : Sc) (a b q : Nat) : Bool := decide (dd (4 * b + 2) = nI q) && (decide (dd (4 * a) = dd (4 * b)) && decide (dd (4 * a + 1) = dd (4 * b + 1)))
def innV (dd : Sc) (a q : Nat) : Nat → Nat → Bool → Option Bool
  | 0, _, met => some met
  | m + 1, b, met => if mtV dd a b q = true then (if dd (4 * a + 3) = dd (4 * b + 3) then innV dd a q m (b + 1) true else none) else innV dd a q m (b + 1) met
def outV (dd : Sc) (dn p q : Nat) : Nat → Nat → Bool → Option Bool
  | 0, _, met => some met
  | m + 1, a, met => if dd (4 * a + 2) = nI p then (innV dd a q dn 0 met).bind (fun x => outV dd dn p q m (a + 1) x) else outV dd dn p q m (a + 1) met
def isT (o : Option Bool) : Bool := match o with
  | some true => true
  | _ => false
def oneV (dd : Sc) (dn p q : Nat) : Bool := isT (outV dd dn p q dn 0 false)
/-- the class -/
theorem c_same (X : XE) (d : Nat) {im lw : List (Option Nat)} {tl : List XC} (iv : Nat → Nat → Int32) (lv : Nat → Nat → Int64) {dd : Sc} (hd : ∀ j, j < 40 → iv 5 j = dd j) {a b : Nat} (ha : a < 10) (hb : b < 10) : call X xT (d + 2) 165 [.inr (.inr (some 4)), .inl (nI a), .inl (nI b)] (SS im lw tl, iv, lv) = some (some (.inl (b2i (decide (dd (4 * a) = dd (4 * b)) && decide (dd (4 * a + 1) = dd (4 * b + 1))))), (SS im lw tl, iv, lv)) := by
  rw [tr165, c_dget X d _ _ (by omega), bI_some, sg165_6, c_dget X d _ _ (by omega), bI_some, sg165_12, hd _ (by omega), hd _ (by omega), show a * 4 + 0 = 4 * a by omega, show b * 4 + 0 = 4 * b by omega]
  by_cases c : dd (4 * a) = dd (4 * b)
  · rw [if_pos c, c_dget X d _ _ (by omega), bI_some, sg165_21, c_dget X d _ _ (by omega), bI_some, sg165_27, hd _ (by omega), hd _ (by omega), show a * 4 + 1 = 4 * a + 1 by omega, show b * 4 + 1 = 4 * b + 1 by omega, decide_eq_true c, Bool.true_and]
    by_cases c2 : dd (4 * a + 1) = dd (4 * b + 1)
    · rw [if_pos c2, decide_eq_true c2]; rfl
    · rw [if_neg c2, decide_eq_false c2]; rfl
  · rw [if_neg c, decide_eq_false c]; rfl
theorem c_inn_loop (X : XE) (d : Nat) {im lw : List (Option Nat)} {tl : List XC} (iv : Nat → Nat → Int32) (lv : Nat → Nat → Int64) {dn : Nat} {dd : Sc} (hn : dn ≤ 10) (h4 : iv 4 1 = nI dn) (hd : ∀ j, j < 40 → iv 5 j = dd j) {p q a : Nat} (ha : a < dn) (hp : dd (4 * a + 2) = nI p) : ∀ (m b : Nat) (met : Bool), b + m = dn → (innV dd a q m b met = none ∧ run X (call X xT (d + 2)) false 4 xc163 17 [some (.inr (.inr (some 4))), some (.inl (nI p)), some (.inl (nI q)), some (.inl (b2i met)), some (.inl (nI a)), some (.inl (nI b))] [] (SS im lw tl, iv, lv) = some (some (.inl (nI 0)), (SS im lw tl, iv, lv))) ∨ ∃ x w5, innV dd a q m b met = some x ∧ run X (call X xT (d + 2)) false 4 xc163 17 [some (.inr (.inr (some 4))), some (.inl (nI p)), some (.inl (nI q)), some (.inl (b2i met)), some (.inl (nI a)), some (.inl (nI b))] [] (SS im lw tl, iv, lv) = run X (call X xT (d + 2)) false 4 xc163 5 [some (.inr (.inr (some 4))), some (.inl (nI p)), some (.inl (nI q)), some (.inl (b2i x)), some (.inl (nI (a + 1))), some (.inl w5)] [] (SS im lw tl, iv, lv) := by
  intro m
  induction m with
  | zero =>
    intro b met hb
    refine Or.inr ⟨met, nI b, rfl, ?_⟩
    rw [sg163_17, h4, if_pos (nI_le (by omega) (by omega)), nI_add]
  | succ m ih =>
    intro b met hb
    rw [sg163_17, h4, if_neg (nI_ge (show b < dn by omega) (by omega)), c_dget X (d + 1) _ _ (by omega), bI_some, sg163_33, hd _ (by omega), show a * 4 + 2 = 4 * a + 2 by omega, if_pos hp, c_dget X (d + 1) _ _ (by omega), bI_some, sg163_44, hd _ (by omega), show b * 4 + 2 = 4 * b + 2 by omega, nI_add]
    simp only [innV]
    by_cases c : dd (4 * b + 2) = nI q
    · rw [if_pos c, c_same X d iv lv hd (by omega) (by omega), bI_some, sg163_56, b2i_ite, nI_add]
      have em : mtV dd a b q = (decide (dd (4 * a) = dd (4 * b)) && decide (dd (4 * a + 1) = dd (4 * b + 1))) := by unfold mtV; rw [decide_eq_true c, Bool.true_and]
      rw [em]
      by_cases c2 : (decide (dd (4 * a) = dd (4 * b)) && decide (dd (4 * a + 1) = dd (4 * b + 1))) = true
      · rw [if_pos c2, if_pos c2, c_dget X (d + 1) _ _ (by omega), bI_some, sg163_69, c_dget X (d + 1) _ _ (by omega), bI_some, sg163_76, hd _ (by omega), hd _ (by omega), show a * 4 + 3 = 4 * a + 3 by omega, show b * 4 + 3 = 4 * b + 3 by omega, nI_add]
        by_cases c3 : dd (4 * a + 3) = dd (4 * b + 3)
        · rw [if_pos c3, if_pos c3]
          exact ih (b + 1) true (by omega)
        · rw [if_neg c3, if_neg c3]
          exact Or.inl ⟨rfl, rfl⟩
      · rw [if_neg c2, if_neg c2]
        exact ih (b + 1) met (by omega)
    · have em : ¬ mtV dd a b q = true := by unfold mtV; rw [decide_eq_false c, Bool.false_and]; decide
      rw [if_neg c, if_neg em]
      exact ih (b + 1) met (by omega)
theorem c_out_loop (X : XE) (d : Nat) {im lw : List (Option Nat)} {tl : List XC} (iv : Nat → Nat → Int32) (lv : Nat → Nat → Int64) {dn : Nat} {dd : Sc} (hn : dn ≤ 10) (h4 : iv 4 1 = nI dn) (hd : ∀ j, j < 40 → iv 5 j = dd j) {p q : Nat} : ∀ (m a : Nat) (met : Bool) (w5 : Option XV), a + m = dn → run X (call X xT (d + 2)) false 4 xc163 5 [some (.inr (.inr (some 4))), some (.inl (nI p)), some (.inl (nI q)), some (.inl (b2i met)), some (.inl (nI a)), w5] [] (SS im lw tl, iv, lv) = some (some (.inl (b2i (isT (outV dd dn p q m a met)))), (SS im lw tl, iv, lv)) := by
  intro m
  induction m with
  | zero =>
    intro a met w5 ha
    rw [sg163_5, h4, if_pos (nI_le (by omega) (by omega)), if_pos (is01_b2i _)]
    cases met <;> rfl
  | succ m ih =>
    intro a met w5 ha
    rw [sg163_5, h4, if_neg (nI_ge (show a < dn by omega) (by omega))]
    simp only [outV]
    by_cases c : dd (4 * a + 2) = nI p
    · rw [if_pos c]
      rcases c_inn_loop X d (im := im) (lw := lw) (tl := tl) iv lv hn h4 hd (q := q) (show a < dn by omega) c dn 0 met (by omega) with ⟨e1, e2⟩ | ⟨x, w, e1, e2⟩
      · rw [e1, e2]; rfl
      · rw [e1, e2, ih (a + 1) x _ (by omega)]; rfl
    · rw [if_neg c, sg163_17, h4, if_neg (nI_ge (show 0 < dn by omega) (by omega)), c_dget X (d + 1) _ _ (by omega), bI_some, sg163_33, hd _ (by omega), show a * 4 + 2 = 4 * a + 2 by omega, if_neg c, nI_add]
      exact ih (a + 1) met _ (by omega)
theorem c_areOne (X : XE) (d : Nat) {im lw : List (Option Nat)} {tl : List XC} (iv : Nat → Nat → Int32) (lv : Nat → Nat → Int64) {dn : Nat} {dd : Sc} (hn : dn ≤ 10) (h4 : iv 4 1 = nI dn) (hd : ∀ j, j < 40 → iv 5 j = dd j) (p q : Nat) : call X xT (d + 3) 163 [.inr (.inr (some 4)), .inl (nI p), .inl (nI q)] (SS im lw tl, iv, lv) = some (some (.inl (b2i (oneV dd dn p q))), (SS im lw tl, iv, lv)) := by
  rw [tr163]
  exact c_out_loop X d iv lv hn h4 hd dn 0 false none (by omega)
/-- the reference -/
def inM (dd : Sc) (a p q : Nat) : Nat → Nat → Bool × Bool → Bool × Bool
  | 0, _, s => s
  | m + 1, b, s => inM dd a p q m (b + 1) (if (decide (dd (4 * a + 2) = nI p) && mtV dd a b q) = true then (s.1 && decide (dd (4 * a + 3) = dd (4 * b + 3)), true) else s)
def ouM (dd : Sc) (dn p q : Nat) : Nat → Nat → Bool × Bool → Bool × Bool
  | 0, _, s => s
  | m + 1, a, s => ouM dd dn p q m (a + 1) (inM dd a p q dn 0 s)
theorem inM_f (dd : Sc) (a p q : Nat) : ∀ (m b : Nat) (x : Bool), (inM dd a p q m b (false, x)).1 = false := by
  intro m
  induction m with
  | zero => intro b x; rfl
  | succ m ih => intro b x; simp only [inM]; split <;> exact ih _ _
theorem ouM_f (dd : Sc) (dn p q : Nat) : ∀ (m a : Nat) (x : Bool), (ouM dd dn p q m a (false, x)).1 = false := by
  intro m
  induction m with
  | zero => intro a x; rfl
  | succ m ih =>
    intro a x
    simp only [ouM]
    have := inM_f dd a p q dn 0 x
    rw [show inM dd a p q dn 0 (false, x) = (false, (inM dd a p q dn 0 (false, x)).2) from Prod.ext this rfl]
    exact ih _ _
theorem inM_n (dd : Sc) (a p q : Nat) (h : ¬ dd (4 * a + 2) = nI p) : ∀ (m b : Nat) (s : Bool × Bool), inM dd a p q m b s = s := by
  intro m
  induction m with
  | zero => intro b s; rfl
  | succ m ih => intro b s; simp only [inM, decide_eq_false h, Bool.false_and]; exact ih _ _
theorem inM_v (dd : Sc) (a p q : Nat) (h : dd (4 * a + 2) = nI p) : ∀ (m b : Nat) (x : Bool), (innV dd a q m b x = none → (inM dd a p q m b (true, x)).1 = false) ∧ (∀ y, innV dd a q m b x = some y → inM dd a p q m b (true, x) = (true, y)) := by
  intro m
  induction m with
  | zero => intro b x; exact ⟨fun e => (by cases e), fun y e => by injection e with e; rw [← e]; rfl⟩
  | succ m ih =>
    intro b x
    simp only [innV, inM, decide_eq_true h, Bool.true_and]
    by_cases c : mtV dd a b q = true
    · rw [if_pos c, if_pos c]
      by_cases c2 : dd (4 * a + 3) = dd (4 * b + 3)
      · rw [if_pos c2, decide_eq_true c2]
        exact ih (b + 1) true
      · rw [if_neg c2, decide_eq_false c2]
        exact ⟨fun _ => inM_f dd a p q m (b + 1) true, fun y e => by cases e⟩
    · rw [if_neg c, if_neg c]
      exact ih (b + 1) x
theorem ouM_v (dd : Sc) (dn p q : Nat) : ∀ (m a : Nat) (x : Bool), (outV dd dn p q m a x = none → (ouM dd dn p q m a (true, x)).1 = false) ∧ (∀ y, outV dd dn p q m a x = some y → ouM dd dn p q m a (true, x) = (true, y)) := by
  intro m
  induction m with
  | zero => intro a x; exact ⟨fun e => (by cases e), fun y e => by injection e with e; rw [← e]; rfl⟩
  | succ m ih =>
    intro a x
    simp only [outV, ouM]
    by_cases c : dd (4 * a + 2) = nI p
    · rw [if_pos c]
      obtain ⟨i1, i2⟩ := inM_v dd a p q c dn 0 x
      cases hv : innV dd a q dn 0 x with
      | none =>
        have e := i1 hv
        rw [show inM dd a p q dn 0 (true, x) = (false, (inM dd a p q dn 0 (true, x)).2) from Prod.ext e rfl]
        exact ⟨fun _ => ouM_f dd dn p q m (a + 1) _, fun y e => by cases e⟩
      | some z =>
        rw [i2 z hv]
        exact ih (a + 1) z
    · rw [if_neg c, inM_n dd a p q c]
      exact ih (a + 1) x
theorem ouM_one (dd : Sc) (dn p q : Nat) : ((ouM dd dn p q dn 0 (true, false)).2 && (ouM dd dn p q dn 0 (true, false)).1) = oneV dd dn p q := by
  obtain ⟨i1, i2⟩ := ouM_v dd dn p q dn 0 false
  unfold oneV
  cases hv : outV dd dn p q dn 0 false with
  | none => rw [i1 hv, Bool.and_false]; rfl
  | some y => rw [i2 y hv]; cases y <;> rfl
theorem m_inn_loop (X : XE) (d : Nat) (im lw : List (Option Nat)) (tl : List XC) (iv : Nat → Nat → Int32) (lv : Nat → Nat → Int64) {dn : Nat} {dd : Sc} (hn : dn ≤ 10) (h2 : iv 48 2 = nI dn) (hd : ∀ j, j < 40 → iv 48 (68 + j) = dd j) {p q a : Nat} (ha : a < dn) : ∀ (m b : Nat) (s : Bool × Bool), b + m = dn → ∃ w6, run X (call X xT d) false 4 xc293 29 [some (.inr (.inr (some 46))), some (.inl (nI p)), some (.inl (nI q)), some (.inl (b2i s.1)), some (.inl (b2i s.2)), some (.inl (nI (68 + 4 * a))), some (.inl (nI (68 + 4 * b)))] [] (SS im lw tl, iv, lv) = run X (call X xT d) false 4 xc293 9 [some (.inr (.inr (some 46))), some (.inl (nI p)), some (.inl (nI q)), some (.inl (b2i (inM dd a p q m b s).1)), some (.inl (b2i (inM dd a p q m b s).2)), some (.inl (nI (68 + 4 * (a + 1)))), some (.inl w6)] [] (SS im lw tl, iv, lv) := by
  intro m
  induction m with
  | zero =>
    intro b s hb
    refine ⟨nI (68 + 4 * b), ?_⟩
    rw [sg293_29, h2, pk_mul, nI_add, if_pos (nI_le (by omega) (by omega)), nI_add, show 68 + 4 * a + 4 = 68 + 4 * (a + 1) by omega]
    rfl
  | succ m ih =>
    intro b s hb
    rw [sg293_29, h2, pk_mul, nI_add, if_neg (nI_ge (show 68 + 4 * b < 68 + 4 * dn by omega) (by omega))]
    simp only [nI_add]
    rw [nI_clamp (show 68 + 4 * a + 2 < 2 ^ 31 by omega), nI_clamp (show 68 + 4 * b + 2 < 2 ^ 31 by omega), nI_clamp (show 68 + 4 * a < 2 ^ 31 by omega), nI_clamp (show 68 + 4 * b < 2 ^ 31 by omega), nI_clamp (show 68 + 4 * a + 1 < 2 ^ 31 by omega), nI_clamp (show 68 + 4 * b + 1 < 2 ^ 31 by omega), nI_clamp (show 68 + 4 * a + 3 < 2 ^ 31 by omega), nI_clamp (show 68 + 4 * b + 3 < 2 ^ 31 by omega), show 68 + 4 * b + 4 = 68 + 4 * (b + 1) by omega, show 68 + 4 * a + 2 = 68 + (4 * a + 2) by omega, show 68 + 4 * b + 2 = 68 + (4 * b + 2) by omega, show 68 + 4 * a + 1 = 68 + (4 * a + 1) by omega, show 68 + 4 * b + 1 = 68 + (4 * b + 1) by omega, show 68 + 4 * a + 3 = 68 + (4 * a + 3) by omega, show 68 + 4 * b + 3 = 68 + (4 * b + 3) by omega, hd (4 * a + 2) (by omega), hd (4 * b + 2) (by omega), hd (4 * a) (by omega), hd (4 * b) (by omega), hd (4 * a + 1) (by omega), hd (4 * b + 1) (by omega), hd (4 * a + 3) (by omega), hd (4 * b + 3) (by omega)]
    rw [if_pos (ib5k (show 68 + (4 * a + 2) < 5510 by omega)), if_pos (ib5k (show 68 + (4 * b + 2) < 5510 by omega)), if_pos (ib5k (show 68 + 4 * a < 5510 by omega)), if_pos (ib5k (show 68 + 4 * b < 5510 by omega)), if_pos (ib5k (show 68 + (4 * a + 1) < 5510 by omega)), if_pos (ib5k (show 68 + (4 * b + 1) < 5510 by omega)), if_pos (ib5k (show 68 + (4 * a + 3) < 5510 by omega)), if_pos (ib5k (show 68 + (4 * b + 3) < 5510 by omega))]
    have next : ∀ s2 : Bool × Bool, s2 = (if (decide (dd (4 * a + 2) = nI p) && mtV dd a b q) = true then (s.1 && decide (dd (4 * a + 3) = dd (4 * b + 3)), true) else s) → ∃ w6, run X (call X xT d) false 4 xc293 29 [some (.inr (.inr (some 46))), some (.inl (nI p)), some (.inl (nI q)), some (.inl (b2i s2.1)), some (.inl (b2i s2.2)), some (.inl (nI (68 + 4 * a))), some (.inl (nI (68 + 4 * (b + 1))))] [] (SS im lw tl, iv, lv) = run X (call X xT d) false 4 xc293 9 [some (.inr (.inr (some 46))), some (.inl (nI p)), some (.inl (nI q)), some (.inl (b2i (inM dd a p q (m + 1) b s).1)), some (.inl (b2i (inM dd a p q (m + 1) b s).2)), some (.inl (nI (68 + 4 * (a + 1)))), some (.inl w6)] [] (SS im lw tl, iv, lv) := by
      intro s2 hs
      obtain ⟨w6, e⟩ := ih (b + 1) s2 (by omega)
      refine ⟨w6, ?_⟩
      rw [e]
      simp only [inM, hs]
    unfold mtV at next
    by_cases c1 : dd (4 * a + 2) = nI p
    · rw [if_pos c1]
      by_cases c2 : dd (4 * b + 2) = nI q
      · rw [if_pos c2]
        by_cases c3 : dd (4 * a) = dd (4 * b)
        · rw [if_pos c3]
          by_cases c4 : dd (4 * a + 1) = dd (4 * b + 1)
          · rw [if_pos c4]
            rw [decide_eq_true c1, decide_eq_true c2, decide_eq_true c3, decide_eq_true c4] at next
            cases hs : s.1
            · rw [if_pos (by decide)]
              exact next (false, true) (by simp [hs])
            · rw [if_neg (by decide)]
              by_cases c5 : dd (4 * a + 3) = dd (4 * b + 3)
              · rw [if_pos c5]
                exact next (true, true) (by simp [hs, c5])
              · rw [if_neg c5]
                exact next (false, true) (by simp [c5])
          · rw [if_neg c4]
            exact next s (by rw [decide_eq_false c4]; simp)
        · rw [if_neg c3]
          exact next s (by rw [decide_eq_false c3]; simp)
      · rw [if_neg c2]
        exact next s (by rw [decide_eq_false c2]; simp)
    · rw [if_neg c1]
      exact next s (by rw [decide_eq_false c1]; simp)
theorem m_out_loop (X : XE) (d : Nat) (im lw : List (Option Nat)) (tl : List XC) (iv : Nat → Nat → Int32) (lv : Nat → Nat → Int64) {dn : Nat} {dd : Sc} (hn : dn ≤ 10) (h2 : iv 48 2 = nI dn) (hd : ∀ j, j < 40 → iv 48 (68 + j) = dd j) {p q : Nat} : ∀ (m a : Nat) (s : Bool × Bool) (w6 : Option XV), a + m = dn → run X (call X xT d) false 4 xc293 9 [some (.inr (.inr (some 46))), some (.inl (nI p)), some (.inl (nI q)), some (.inl (b2i s.1)), some (.inl (b2i s.2)), some (.inl (nI (68 + 4 * a))), w6] [] (SS im lw tl, iv, lv) = some (some (.inl (b2i ((ouM dd dn p q m a s).2 && (ouM dd dn p q m a s).1))), (SS im lw tl, iv, lv)) := by
  intro m
  induction m with
  | zero =>
    intro a s w6 ha
    rw [sg293_9, h2, pk_mul, nI_add, if_pos (nI_le (by omega) (by omega))]
    obtain ⟨x, y⟩ := s
    cases x <;> cases y <;> rfl
  | succ m ih =>
    intro a s w6 ha
    rw [sg293_9, h2, pk_mul, nI_add, if_neg (nI_ge (show 68 + 4 * a < 68 + 4 * dn by omega) (by omega))]
    obtain ⟨w, e⟩ := m_inn_loop X d im lw tl iv lv hn h2 hd (p := p) (q := q) (show a < dn by omega) dn 0 s (by omega)
    rw [show 68 + 4 * 0 = 68 by omega] at e
    rw [e, ih (a + 1) _ _ (by omega)]
    rfl
theorem m_areOne (X : XE) (d : Nat) (im lw : List (Option Nat)) (tl : List XC) (iv : Nat → Nat → Int32) (lv : Nat → Nat → Int64) {dn : Nat} {dd : Sc} (hn : dn ≤ 10) (h2 : iv 48 2 = nI dn) (hd : ∀ j, j < 40 → iv 48 (68 + j) = dd j) (p q : Nat) : call X xT (d + 1) 293 [.inr (.inr (some 46)), .inl (nI p), .inl (nI q)] (SS im lw tl, iv, lv) = some (some (.inl (b2i (oneV dd dn p q))), (SS im lw tl, iv, lv)) := by
  rw [tr293, ← ouM_one]
  exact m_out_loop X d im lw tl iv lv hn h2 hd dn 0 (true, false) none (by omega)
/-- the pairs, in order: how many are one, and the i-th of them -/
def onI (dd : Sc) (dn : Nat) (i : Int32) (p : Nat) : Nat → Nat → Nat × Int32 → Nat × Int32
  | 0, _, s => s
  | m + 1, q, s => onI dd dn i p m (q + 1) (if oneV dd dn p q = true then (s.1 + 1, if nI s.1 = i then nI (10 * p + q) else s.2) else s)
def onO (dd : Sc) (dn : Nat) (i : Int32) (n : Nat) : Nat → Nat → Nat × Int32 → Nat × Int32
  | 0, _, s => s
  | m + 1, p, s => onO dd dn i n m (p + 1) (onI dd dn i p (n - (p + 1)) (p + 1) s)
theorem onI_st (dd : Sc) (dn : Nat) {i : Int32} (p : Nat) : ∀ (m q : Nat) (s : Nat × Int32) (k : Nat), k < s.1 → s.1 + m < 1000 → i = nI k → (onI dd dn i p m q s).2 = s.2 ∧ k < (onI dd dn i p m q s).1 ∧ (onI dd dn i p m q s).1 ≤ s.1 + m := by
  intro m
  induction m with
  | zero => intro q s k h1 _ _; exact ⟨rfl, h1, by simp [onI]⟩
  | succ m ih =>
    intro q s k h1 h2 h3
    simp only [onI]
    by_cases c : oneV dd dn p q = true
    · rw [if_pos c]
      obtain ⟨a1, a2, a3⟩ := ih (q + 1) (s.1 + 1, if nI s.1 = i then nI (10 * p + q) else s.2) k (by show k < s.1 + 1; omega) (by show s.1 + 1 + m < 1000; omega) h3
      refine ⟨a1.trans ?_, a2, by have a3 : _ ≤ s.1 + 1 + m := a3; omega⟩
      show (if nI s.1 = i then nI (10 * p + q) else s.2) = s.2
      rw [if_neg (by rw [h3]; intro e; have := (nI_eq (by omega) (by omega)).mp e; omega)]
    · rw [if_neg c]
      obtain ⟨a1, a2, a3⟩ := ih (q + 1) s k h1 (by omega) h3
      exact ⟨a1, a2, by omega⟩
theorem onO_st (dd : Sc) (dn : Nat) {i : Int32} {n : Nat} (hn : n ≤ 6) : ∀ (m p : Nat) (s : Nat × Int32) (k : Nat), k < s.1 → s.1 + 6 * m < 900 → i = nI k → (onO dd dn i n m p s).2 = s.2 := by
  intro m
  induction m with
  | zero => intro p s k h1 _ _; rfl
  | succ m ih =>
    intro p s k h1 h2 h3
    simp only [onO]
    obtain ⟨a1, a2, a3⟩ := onI_st dd dn (i := i) p (n - (p + 1)) (p + 1) s k h1 (by omega) h3
    rw [ih (p + 1) _ k a2 (by omega) h3, a1]
theorem onI_le (dd : Sc) (dn : Nat) (i : Int32) (p : Nat) : ∀ (m q : Nat) (s : Nat × Int32), (onI dd dn i p m q s).1 ≤ s.1 + m := by
  intro m
  induction m with
  | zero => intro q s; simp [onI]
  | succ m ih =>
    intro q s
    simp only [onI]
    have := ih (q + 1) (if oneV dd dn p q = true then (s.1 + 1, if nI s.1 = i then nI (10 * p + q) else s.2) else s)
    have e : (if oneV dd dn p q = true then (s.1 + 1, if nI s.1 = i then nI (10 * p + q) else s.2) else s).1 ≤ s.1 + 1 := by split <;> simp
    omega
def ansO (i : Int32) (s : Nat × Int32) : Int32 := if i = -1 then nI s.1 else s.2
def sp_one (i : Int32) (A : St) : Int32 × St := (ansO i (onO A.1.2.1.2 A.1.2.1.1 i (nP A.1.1) (nP A.1.1) 0 (0, -1)), A)
theorem c_oneI (X : XE) (d : Nat) {im lw : List (Option Nat)} {tl : List XC} (iv : Nat → Nat → Int32) (lv : Nat → Nat → Int64) {dn : Nat} {dd : Sc} (hn : dn ≤ 10) (h4 : iv 4 1 = nI dn) (hd : ∀ j, j < 40 → iv 5 j = dd j) (i : Int32) {n p : Nat} (hn6 : n ≤ 6) : ∀ (m q : Nat) (s : Nat × Int32), q + m = n → s.1 + m < 1000 → s.2 = -1 → (∃ w5, run X (call X xT (d + 3)) false 1 xc162 28 [some (.inr (.inr (some 0))), some (.inl i), some (.inl (nI n)), some (.inl (nI s.1)), some (.inl (nI p)), some (.inl (nI q))] [] (SS im lw tl, iv, lv) = run X (call X xT (d + 3)) false 1 xc162 16 [some (.inr (.inr (some 0))), some (.inl i), some (.inl (nI n)), some (.inl (nI (onI dd dn i p m q s).1)), some (.inl (nI (p + 1))), some (.inl w5)] [] (SS im lw tl, iv, lv) ∧ (onI dd dn i p m q s).2 = -1) ∨ (run X (call X xT (d + 3)) false 1 xc162 28 [some (.inr (.inr (some 0))), some (.inl i), some (.inl (nI n)), some (.inl (nI s.1)), some (.inl (nI p)), some (.inl (nI q))] [] (SS im lw tl, iv, lv) = some (some (.inl (onI dd dn i p m q s).2), (SS im lw tl, iv, lv)) ∧ ∃ k, k < (onI dd dn i p m q s).1 ∧ i = nI k) := by
  intro m
  induction m with
  | zero =>
    intro q s hq hs h1
    refine Or.inl ⟨nI q, ?_, h1⟩
    rw [sg162_28, if_pos (nI_le (by omega) (by omega)), nI_add]
    rfl
  | succ m ih =>
    intro q s hq hs h1
    rw [sg162_28, if_neg (nI_ge (show q < n by omega) (by omega)), c_areOne X d iv lv hn h4 hd, bI_some, sg162_48, b2i_ite]
    simp only [onI]
    by_cases c : oneV dd dn p q = true
    · rw [if_pos c, if_pos c]
      by_cases c2 : nI s.1 = i
      · rw [if_pos c2, if_pos c2, pk_mul, nI_add]
        obtain ⟨a1, a2, a3⟩ := onI_st dd dn (i := i) p m (q + 1) (s.1 + 1, nI (10 * p + q)) s.1 (by show s.1 < s.1 + 1; omega) (by show s.1 + 1 + m < 1000; omega) c2.symm
        exact Or.inr ⟨by rw [a1], s.1, a2, c2.symm⟩
      · rw [if_neg c2, if_neg c2, nI_add, nI_add]
        exact ih (q + 1) (s.1 + 1, s.2) (by omega) (by show s.1 + 1 + m < 1000; omega) h1
    · rw [if_neg c, if_neg c, nI_add]
      exact ih (q + 1) s (by omega) (by omega) h1
theorem c_oneO (X : XE) (d : Nat) {im lw : List (Option Nat)} {tl : List XC} (iv : Nat → Nat → Int32) (lv : Nat → Nat → Int64) {dn : Nat} {dd : Sc} (hn : dn ≤ 10) (h4 : iv 4 1 = nI dn) (hd : ∀ j, j < 40 → iv 5 j = dd j) (i : Int32) {n : Nat} (hn6 : n ≤ 6) : ∀ (m p : Nat) (s : Nat × Int32) (w5 : Option XV), p + m = n → s.1 + 6 * m < 900 → s.2 = -1 → run X (call X xT (d + 3)) false 1 xc162 16 [some (.inr (.inr (some 0))), some (.inl i), some (.inl (nI n)), some (.inl (nI s.1)), some (.inl (nI p)), w5] [] (SS im lw tl, iv, lv) = some (some (.inl (ansO i (onO dd dn i n m p s))), (SS im lw tl, iv, lv)) := by
  intro m
  induction m with
  | zero =>
    intro p s w5 hp hs h1
    rw [sg162_16, if_pos (nI_le (by omega) (by omega))]
    simp only [onO, ansO, h1]
    split <;> rfl
  | succ m ih =>
    intro p s w5 hp hs h1
    rw [sg162_16, if_neg (nI_ge (show p < n by omega) (by omega)), nI_add]
    simp only [onO]
    have ol := onI_le dd dn i p (n - (p + 1)) (p + 1) s
    rcases c_oneI X d (im := im) (lw := lw) (tl := tl) iv lv hn h4 hd i (p := p) hn6 (n - (p + 1)) (p + 1) s (by omega) (by omega) h1 with ⟨w, e1, e2⟩ | ⟨e1, k, e2, e3⟩
    · rw [e1, ih (p + 1) _ _ (by omega) (by omega) e2]
    · rw [e1]
      unfold ansO
      rw [if_neg (by rw [e3]; exact nI_m1 (by omega)), onO_st dd dn hn6 m (p + 1) _ k e2 (by omega) e3]
theorem m_oneI (X : XE) (d : Nat) (im lw : List (Option Nat)) (tl : List XC) (iv : Nat → Nat → Int32) (lv : Nat → Nat → Int64) {dn : Nat} {dd : Sc} (hn : dn ≤ 10) (h2 : iv 48 2 = nI dn) (hd : ∀ j, j < 40 → iv 48 (68 + j) = dd j) (i : Int32) {n p : Nat} (h0 : iv 48 0 = nI n) (hn6 : n ≤ 6) : ∀ (m q : Nat) (s : Nat × Int32), q + m = n → ∃ w5, run X (call X xT (d + 1)) false 1 xc292 29 [some (.inr (.inr (some 46))), some (.inl i), some (.inl (nI s.1)), some (.inl s.2), some (.inl (nI p)), some (.inl (nI q))] [] (SS im lw tl, iv, lv) = run X (call X xT (d + 1)) false 1 xc292 12 [some (.inr (.inr (some 46))), some (.inl i), some (.inl (nI (onI dd dn i p m q s).1)), some (.inl (onI dd dn i p m q s).2), some (.inl (nI (p + 1))), some (.inl w5)] [] (SS im lw tl, iv, lv) := by
  intro m
  induction m with
  | zero =>
    intro q s hq
    refine ⟨nI q, ?_⟩
    rw [sg292_29, h0, if_pos (nI_le (by omega) (by omega)), nI_add]
    rfl
  | succ m ih =>
    intro q s hq
    rw [sg292_29, h0, if_neg (nI_ge (show q < n by omega) (by omega)), m_areOne X d im lw tl iv lv hn h2 hd, bI_some, sg292_48, b2i_ite]
    simp only [onI]
    by_cases c : oneV dd dn p q = true
    · rw [if_pos c, if_pos c]
      by_cases c2 : nI s.1 = i
      · rw [if_pos c2, if_pos c2, pk_mul, nI_add, nI_add, nI_add]
        exact ih (q + 1) (s.1 + 1, nI (10 * p + q)) (by omega)
      · rw [if_neg c2, if_neg c2, nI_add, nI_add]
        exact ih (q + 1) (s.1 + 1, s.2) (by omega)
    · rw [if_neg c, if_neg c, nI_add]
      exact ih (q + 1) s (by omega)
theorem m_oneO (X : XE) (d : Nat) (im lw : List (Option Nat)) (tl : List XC) (iv : Nat → Nat → Int32) (lv : Nat → Nat → Int64) {dn : Nat} {dd : Sc} (hn : dn ≤ 10) (h2 : iv 48 2 = nI dn) (hd : ∀ j, j < 40 → iv 48 (68 + j) = dd j) (i : Int32) {n : Nat} (h0 : iv 48 0 = nI n) (hn6 : n ≤ 6) : ∀ (m p : Nat) (s : Nat × Int32) (w5 : Option XV), p + m = n → run X (call X xT (d + 1)) false 1 xc292 12 [some (.inr (.inr (some 46))), some (.inl i), some (.inl (nI s.1)), some (.inl s.2), some (.inl (nI p)), w5] [] (SS im lw tl, iv, lv) = some (some (.inl (ansO i (onO dd dn i n m p s))), (SS im lw tl, iv, lv)) := by
  intro m
  induction m with
  | zero =>
    intro p s w5 hp
    rw [sg292_12, h0, if_pos (nI_le (by omega) (by omega))]
    simp only [onO, ansO]
    split <;> rfl
  | succ m ih =>
    intro p s w5 hp
    rw [sg292_12, h0, if_neg (nI_ge (show p < n by omega) (by omega)), nI_add]
    obtain ⟨w, e⟩ := m_oneI X d im lw tl iv lv hn h2 hd i (p := p) h0 hn6 (n - (p + 1)) (p + 1) s (by omega)
    rw [e, ih (p + 1) _ _ (by omega)]
    rfl
theorem S_one (i : Int32) : stepOK 162 292 [.inl i] := by
  refine step_of (F := sp_one i) ?_ ?_ (fun _ h => h)
  · intro X hX d im lw tl iv lv A h ho
    show CR' im lw tl iv lv _ _
    obtain ⟨p0, p1, t0, t1, hk⟩ := cfacts h ho
    unfold sp_one
    refine cq h ?_
    rw [tr162, c_prov0 (sc2 im lw tl), bI_some, sg162_10, p0]
    exact c_oneO X (d + 36) iv lv ho.1.2.1.1 h.2.1.2.1 h.2.1.2.2.1 i p1 (nP A.1.1) 0 (0, -1) none (by omega) (by show 0 + 6 * nP A.1.1 < 900; omega) rfl
  · intro X d im lw tl iv lv A h ho
    show MR' im lw tl iv _ _
    have h0 := h.thr (nI 0)
    obtain ⟨p0, p1, t0, t1, hk, he, hk2, h20⟩ := mfacts h0 ho
    unfold sp_one
    refine mq h ?_
    rw [tr292]
    exact m_oneO X (d + 38) im lw tl _ lv ho.1.2.1.1 h0.1.2.1 h0.1.2.2.1 i p0 p1 (nP A.1.1) 0 (0, -1) none (by omega)
