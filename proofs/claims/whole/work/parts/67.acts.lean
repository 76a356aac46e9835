/-! acts -/
theorem near_ok (x : Int32) {top : Nat} (ht : top < 2 ^ 31) : ∃ m, m ≤ top ∧ near (nI top) x = nI m := by
  unfold near
  by_cases h1 : x < nI top
  · rw [if_pos h1]
    by_cases h2 : nI 0 < x
    · rw [if_pos h2]
      obtain ⟨j, hj, e⟩ := nI_of (x := x) (by rw [fb_lt] at h2 ⊢; rw [nI_toInt (by decide)] at h2; rw [show (0 : Int32).toInt = 0 by decide]; omega)
      refine ⟨j, ?_, e⟩
      rw [e] at h1
      rcases Nat.lt_or_ge top j with q | q
      · exact absurd h1 (nI_nlt (by omega) hj)
      · exact q
    · rw [if_neg h2]; exact ⟨0, by omega, rfl⟩
  · rw [if_neg h1]
    by_cases h2 : nI 0 < nI top
    · rw [if_pos h2]; exact ⟨top, Nat.le_refl _, rfl⟩
    · rw [if_neg h2]; exact ⟨0, by omega, rfl⟩
def gd (f f' : Sc) : Prop := okF f' ∧ statE f f'
theorem statE.rf {f : Sc} : statE f f := ⟨rfl, rfl, fun _ _ => rfl⟩
theorem gd.rf {f : Sc} (h : okF f) : gd f f := ⟨h, statE.rf⟩
theorem gd.tr {f g k : Sc} (h : gd f g) (h2 : gd g k) : gd f k := ⟨h2.1, h.2.tr h2.2⟩
theorem gd_put {f : Sc} (h : okF f) {j m : Nat} (hj : j = 2 ∨ (5 ≤ j ∧ j < 23) ∨ (27 ≤ j ∧ j < 35)) (hm : m ≤ tp j) : gd f (pu f j (nI m)) := by
  have s : statE f (pu f j (nI m)) := ⟨pu_n _ _ _ (by omega), pu_n _ _ _ (by omega), fun t ht => pu_n _ _ _ (by omega)⟩
  refine ⟨⟨h.1.put hm, fun t p ht hp hq => ?_⟩, s⟩
  rw [st_nP s, st_nT s] at hq
  rw [pu_n _ _ _ (by omega)]
  exact h.2 t p ht hp hq
theorem gd_near {f : Sc} (h : okF f) {j top : Nat} (hj : j = 2 ∨ (5 ≤ j ∧ j < 23) ∨ (27 ≤ j ∧ j < 35)) (ht : tp j = top) (hl : top < 2 ^ 31) (x : Int32) : gd f (pu f j (near (nI top) x)) := by
  obtain ⟨m, h1, h2⟩ := near_ok x hl
  rw [h2]
  exact gd_put h hj (by omega)
theorem gd_mem {f : Sc} (h : okF f) {t p : Nat} (ht : t < nT f) (hp : p < nP f) (x : Int32) : gd f (pu f (35 + (t * 6 + p)) (near (nI 9) x)) := by
  have n1 := h.1.np.2
  have n2 := h.1.nt.2
  obtain ⟨m, h1, h2⟩ := near_ok x (top := 9) (by decide)
  rw [h2]
  have s : statE f (pu f (35 + (t * 6 + p)) (nI m)) := ⟨pu_n _ _ _ (by omega), pu_n _ _ _ (by omega), fun t ht => pu_n _ _ _ (by omega)⟩
  refine ⟨⟨h.1.put (by rw [tp_y (by omega) (by omega)]; exact h1), fun t2 p2 ht2 hp2 hq => ?_⟩, s⟩
  rw [st_nP s, st_nT s] at hq
  rw [pu_n _ _ _ (by omega)]
  exact h.2 t2 p2 ht2 hp2 hq
theorem gd_stir (b u : Int32) : ∀ (m q : Nat) {f : Sc}, okF f → q + m ≤ 6 → gd f (stirF b u m q f) := by
  intro m
  induction m with
  | zero => intro q f h _; exact gd.rf h
  | succ m ih =>
    intro q f h hq
    simp only [stirF]
    split
    · have g := gd_near h (j := 11 + q) (by omega) (tp_t (by omega)) (by decide) (f (11 + q) + b)
      exact g.tr (ih (q + 1) g.1 (by omega))
    · exact ih (q + 1) h (by omega)
theorem gd_react {f : Sc} (h : okF f) (did : Int32) {n t p : Nat} (hn : n ≤ 6) (ht : t < 4) (hp : p < 6) : gd f (reactF f n did t p) := by
  unfold reactF
  split
  · have g := gd_near h (j := 5 + p) (by omega) (tp_h hp) (by decide) (f (5 + p) + nI 1)
    exact g.tr (gd_stir _ _ _ _ g.1 (by omega))
  · split
    · have g := gd_near h (j := 11 + p) (by omega) (tp_t hp) (by decide) (f (11 + p) + nI 1)
      exact g.tr (gd_stir _ _ _ _ g.1 (by omega))
    · have g := gd_near h (j := 31 + t) (by omega) (tp_a ht) (by decide) (f (31 + t) + (-1))
      exact g.tr (gd_near g.1 (j := 5 + p) (by omega) (tp_h hp) (by decide) _)
theorem gd_eat {f : Sc} (h : okF f) {t p : Nat} (ht : t < nT f) (hp : p < nP f) : gd f (eatF f t p) := by
  have n1 := h.1.np.2
  unfold eatF
  have g := gd_near h (j := 5 + p) (by omega) (tp_h (by omega)) (by decide) (f (5 + p) + (-3))
  exact g.tr (gd_mem g.1 (by rw [st_nT g.2]; exact ht) (by rw [st_nP g.2]; exact hp) _)
theorem gd_feed {f : Sc} (h : okF f) {t p : Nat} (ht : t < nT f) (hp : p < nP f) : gd f (feedF f t p) := by
  have n2 := h.1.nt.2
  unfold feedF
  split
  · exact gd.rf h
  · have g := gd_near h (j := 27 + t) (by omega) (tp_m (by omega)) (by decide) (f (27 + t) + (-1))
    exact g.tr (gd_eat g.1 (by rw [st_nT g.2]; exact ht) (by rw [st_nP g.2]; exact hp))
theorem gd_grow (cl : Nat → CL) (n : Nat) : ∀ (m q : Nat) {f : Sc}, okF f → q + m ≤ 6 → gd f (growF cl n m q f) := by
  intro m
  induction m with
  | zero => intro q f h _; exact gd.rf h
  | succ m ih =>
    intro q f h hq
    simp only [growF]
    have g := gd_near h (j := 5 + q) (by omega) (tp_h (by omega)) (by decide) (f (5 + q) + growV f cl n q)
    exact g.tr (ih (q + 1) g.1 (by omega))
theorem gd_pay (cl : Nat → CL) (n : Nat) : ∀ (m q : Nat) {f : Sc}, okF f → q + m ≤ 4 → gd f (payF cl n m q f) := by
  intro m
  induction m with
  | zero => intro q f h _; exact gd.rf h
  | succ m ih =>
    intro q f h hq
    simp only [payF]
    have g := gd_near h (j := 27 + q) (by omega) (tp_m (by omega)) (by decide) (f (27 + q) + wageV f cl n q)
    exact g.tr (ih (q + 1) g.1 (by omega))
theorem gd_day (cl : Nat → CL) (n : Nat) {np nt : Nat} (h1 : np ≤ 6) (h2 : nt ≤ 4) {f : Sc} (h : okF f) : gd f (dayF cl n np nt f) := by
  unfold dayF
  have g1 := gd_grow cl n np 0 h (by omega)
  have g2 := gd_pay cl n nt 0 g1.1 (by omega)
  exact (g1.tr g2).tr (gd_near g2.1 (j := 2) (by omega) rfl (by decide) _)
theorem OKA.push {A : St} (h : OKA A) {k : Nat} (hk : k ≤ 3) : okU A.1.1 (pushU A.2.2.2.1 (nI k) A.1.1) := by
  refine ⟨by unfold pushU; rw [List.length_take]; omega, fun e he => ?_⟩
  have he : e ∈ (nI k, A.1.1) :: A.2.2.2.1 := List.mem_of_mem_take he
  rcases List.mem_cons.mp he with rfl | he
  · exact ⟨h.1.1, statE.rf, k, hk, rfl⟩
  · exact h.2.2.2.1.2 e he
theorem OKA.stU {A : St} (h : OKA A) {U : List (Int32 × Sc)} (hU : okU A.1.1 U) : OKA (stU A U) := ⟨h.1, h.2.1, h.2.2.1, hU, h.2.2.2.2⟩
/-- an act: what it answers, the state behind it -/
def CAct (k : Nat) (as : XS) (F : St → Int32 × St) : Prop := ∀ (X : XE) (d : Nat) (im lw : List (Option Nat)) (tl : List XC) (iv : Nat → Nat → Int32) (lv : Nat → Nat → Int64) (A : St), RelC A im lw tl iv → OKA A → CR' im lw tl iv lv (call X xT (d + 12) k (.inr (.inr (some 0)) :: as) (SS im lw tl, iv, lv)) (F A)
def MAct (k : Nat) (as : XS) (F : St → Int32 × St) : Prop := ∀ (X : XE) (d : Nat) (im lw : List (Option Nat)) (tl : List XC) (iv : Nat → Nat → Int32) (lv : Nat → Nat → Int64) (A : St), RelM A iv lv → OKA A → MR' im lw tl iv (call X xT (d + 12) k (.inr (.inr (some 46)) :: as) (SS im lw tl, iv, lv)) (F A)
/-- it is refused and changes nothing, or it answers no less than 0 -/
def actOK (F : St → Int32 × St) : Prop := ∀ A, OKA A → (∃ i, i < 3 ∧ F A = (rcode i, A)) ∨ (0 ≤ (F A).1 ∧ OKA (F A).2)
def mayV (f : Sc) (l : Lw) (t p : Nat) : Bool := decide (¬ f (31 + t) < nI 1) && !barV f l.1 l.2 t p
def a_crack (t p : Int32) (A : St) : Int32 × St := if (hasV (nI (nT A.1.1)) t && hasV (nI (nP A.1.1)) p) = true then (if mayV A.1.1 (lawOf A.1) t.toNatClampNeg p.toNatClampNeg = true then (reaV A.1.1 (lawOf A.1).1 (lawOf A.1).2 t.toNatClampNeg p.toNatClampNeg, stU (stF A (reactF A.1.1 (nP A.1.1) (reaV A.1.1 (lawOf A.1).1 (lawOf A.1).2 t.toNatClampNeg p.toNatClampNeg) t.toNatClampNeg p.toNatClampNeg)) (pushU A.2.2.2.1 (nI 0) A.1.1)) else (rcode 2, A)) else (rcode 1, A)
def a_feed (t p : Int32) (A : St) : Int32 × St := if (hasV (nI (nT A.1.1)) t && hasV (nI (nP A.1.1)) p) = true then (if A.1.1 (27 + t.toNatClampNeg) < nI 1 then (rcode 2, A) else (feedF A.1.1 t.toNatClampNeg p.toNatClampNeg (5 + p.toNatClampNeg), stU (stF A (feedF A.1.1 t.toNatClampNeg p.toNatClampNeg)) (pushU A.2.2.2.1 (nI 1) A.1.1))) else (rcode 1, A)
def a_move (p b : Int32) (A : St) : Int32 × St := if inV b (nI 7) = true then (if hasV (nI (nP A.1.1)) p = true then (if tubV A.1.1 b (nP A.1.1) 0 = true then (rcode 2, A) else (A.1.1 (17 + p.toNatClampNeg), stU (stF A (pu A.1.1 (17 + p.toNatClampNeg) b)) (pushU A.2.2.2.1 (nI 2) A.1.1))) else (rcode 1, A)) else (rcode 0, A)
def dayW (w : Wd) : Sc := dayF (lawOf w).1 (lawOf w).2 (nP w.1) (nT w.1) w.1
def a_pass (A : St) : Int32 × St := if A.1.1 2 < nI 999 then (dayW A.1 2, stU (stF A (dayW A.1)) (pushU A.2.2.2.1 (nI 3) A.1.1)) else (rcode 2, A)
theorem has2 {f : Sc} (hk : okS f) {t p : Int32} (h : (hasV (nI (nT f)) t && hasV (nI (nP f)) p) = true) : ∃ a b, a < nT f ∧ b < nP f ∧ t = nI a ∧ p = nI b := by
  rw [Bool.and_eq_true] at h
  obtain ⟨a, ha, e⟩ := hasV_of (by have := hk.nt.2; omega) h.1
  obtain ⟨b, hb, e2⟩ := hasV_of (by have := hk.np.2; omega) h.2
  exact ⟨a, b, ha, hb, e, e2⟩
theorem reaV_pos (f : Sc) (cl : Nat → CL) (n t p : Nat) : 0 ≤ reaV f cl n t p := by unfold reaV; split <;> (try split) <;> decide
theorem okS.pos {f : Sc} (h : okS f) {j : Nat} (hj : j < 59) : 0 ≤ f j := by
  obtain ⟨m, h1, h2⟩ := h j hj
  rw [h2]
  refine nI_p0 ?_
  unfold tp at h1
  repeat' split at h1
  all_goals omega
theorem K_crack (t p : Int32) : actOK (a_crack t p) := by
  intro A h
  have hk := h.1.1
  unfold a_crack
  split
  · rename_i hh
    obtain ⟨a, b, ha, hb, rfl, rfl⟩ := has2 hk.1 hh
    have n1 := hk.1.np.2
    have n2 := hk.1.nt.2
    rw [nI_clamp (by omega), nI_clamp (by omega)]
    split
    · refine Or.inr ⟨reaV_pos _ _ _ _ _, ?_⟩
      have g := gd_react hk (reaV A.1.1 (lawOf A.1).1 (lawOf A.1).2 a b) (n := nP A.1.1) (t := a) (p := b) (by omega) (by omega) (by omega)
      exact OKA.sc h g.1 g.2 (h.push (by decide))
    · exact Or.inl ⟨2, by decide, rfl⟩
  · exact Or.inl ⟨1, by decide, rfl⟩
theorem K_feed (t p : Int32) : actOK (a_feed t p) := by
  intro A h
  have hk := h.1.1
  unfold a_feed
  split
  · rename_i hh
    obtain ⟨a, b, ha, hb, rfl, rfl⟩ := has2 hk.1 hh
    have n1 := hk.1.np.2
    have n2 := hk.1.nt.2
    rw [nI_clamp (by omega), nI_clamp (by omega)]
    split
    · exact Or.inl ⟨2, by decide, rfl⟩
    · have g := gd_feed hk ha hb
      exact Or.inr ⟨g.1.1.pos (by omega), OKA.sc h g.1 g.2 (h.push (by decide))⟩
  · exact Or.inl ⟨1, by decide, rfl⟩
theorem K_move (p b : Int32) : actOK (a_move p b) := by
  intro A h
  have hk := h.1.1
  have n1 := hk.1.np.2
  unfold a_move
  split
  · rename_i hb
    obtain ⟨m, hm, rfl⟩ := inV_of (by decide) hb
    split
    · rename_i hp
      obtain ⟨q, hq, rfl⟩ := hasV_of (by omega) hp
      rw [nI_clamp (by omega)]
      split
      · exact Or.inl ⟨2, by decide, rfl⟩
      · have g := gd_put hk (j := 17 + q) (m := m) (by omega) (by rw [tp_b (by omega)]; exact hm)
        exact Or.inr ⟨hk.1.pos (by omega), OKA.sc h g.1 g.2 (h.push (by decide))⟩
    · exact Or.inl ⟨1, by decide, rfl⟩
  · exact Or.inl ⟨0, by decide, rfl⟩
theorem K_pass : actOK a_pass := by
  intro A h
  have hk := h.1.1
  unfold a_pass
  split
  · have g := gd_day (lawOf A.1).1 (lawOf A.1).2 hk.1.np.2 hk.1.nt.2 hk
    exact Or.inr ⟨g.1.1.pos (by omega), OKA.sc h g.1 g.2 (h.push (by decide))⟩
  · exact Or.inl ⟨2, by decide, rfl⟩
/-- mayCrack, of a scene of the class -/
theorem c_may (X : XE) (d : Nat) {im lw : List (Option Nat)} {tl : List XC} {iv : Nat → Nat → Int32} (lv : Nat → Nat → Int64) {A : St} (h : RelC A im lw tl iv) (ho : OKA A) {a c : Nat} (hs : scell (SS im lw tl) a c) (hc : c ≠ 20) {t p : Nat} (ht : t < 4) (hp : p < 6) : ∃ iv' lv', call X xT (d + 5) 126 [.inr (.inr (some 0)), .inr (.inr (some a)), .inl (nI t), .inl (nI p)] (SS im lw tl, iv, lv) = some (some (.inl (b2i (mayV (iv c) (lawOf A.1) t p))), (SS im lw tl, iv', lv')) ∧ agC iv iv' ∧ agL lv lv' := by
  rw [tr126, objR_ok hs.1 rfl, c_get0 hs (by omega), bI_some, sg126_7]
  unfold mayV
  by_cases h1 : iv c (31 + t) < nI 1
  · rw [if_pos h1, decide_eq_false (by simpa using h1)]
    exact ⟨iv, lv, rfl, agC.rf, agL.rf⟩
  · obtain ⟨r, r1, r2⟩ := c_force (X := X) (d := d + 2) (lv := lv) h ho
    obtain ⟨iv', lv', g1, g2, g3⟩ := c_barred X d im lw tl iv lv hs hc (r2 iv (fun _ _ => rfl)).S ht hp
    rw [if_neg h1, decide_eq_true h1, r1, bR_some, sg126_23, g1, bI_some, sg126_28, Bool.true_and]
    refine ⟨iv', lv', ?_, g2, g3⟩
    cases barV (iv c) (lawOf A.1).1 (lawOf A.1).2 t p <;> rfl
theorem mayV_eq {f g : Sc} (h : eqS f g) (l : Lw) {t p : Nat} (ht : t < 4) (hp : p < 6) : mayV f l t p = mayV g l t p := by
  unfold mayV
  rw [h (31 + t) (by omega), barV_eq h _ _ ht hp]
theorem midL_of {lv lv' : Nat → Nat → Int64} (h : agL lv lv') : midL lv lv' := h.mid
theorem C_crack0 (t p : Int32) : CAct 125 [.inl t, .inl p] (a_crack t p) := by
  intro X d im lw tl iv lv A h ho
  obtain ⟨p0, p1, t0, t1, hk⟩ := cfacts h ho
  have e := h.eq
  unfold a_crack
  rw [tr125, c_hasT (sc2 im lw tl), bI_some, sg125_13, b2i_ite, t0]
  cases ht : hasV (nI (nT A.1.1)) t
  · rw [if_neg (by decide), Bool.false_and, if_neg (by decide)]
    exact cq h rfl
  rw [if_pos rfl, Bool.true_and, c_hasP (sc2 im lw tl), bI_some, sg125_21, b2i_ite, p0]
  by_cases hp : hasV (nI (nP A.1.1)) p = true
  · rw [if_pos hp, if_pos hp]
    obtain ⟨a, ha, rfl⟩ := hasV_of (by omega) ht
    obtain ⟨b, hb, rfl⟩ := hasV_of (by omega) hp
    rw [nI_clamp (show a < 2 ^ 31 by omega), nI_clamp (show b < 2 ^ 31 by omega)]
    obtain ⟨iv1, lv1, g1, g2, g3⟩ := c_may X (d + 6) lv h ho (sc2 im lw tl) (by decide) (t := a) (p := b) (by omega) (by omega)
    rw [mayV_eq e _ (by omega) (by omega)] at g1
    rw [g1, bI_some, sg125_34, b2i_ite]
    by_cases hm : mayV A.1.1 (lawOf A.1) a b = true
    · rw [if_pos hm, if_pos hm]
      obtain ⟨iv2, k1, k2, k3⟩ := c_keep X (d + 9) lv1 (h.ag g2) ho (nI 0)
      have ho2 := ho.stU (ho.push (k := 0) (by decide))
      obtain ⟨r, r1, r2⟩ := c_force (X := X) (d := d + 9) (lv := lv1) k2 ho2
      obtain ⟨iv3, lv3, m1, m2, m3⟩ := c_react X (d + 6) im lw tl iv2 lv1 (sc2 im lw tl) (by decide) (r2 iv2 (fun _ _ => rfl)).S (t := a) (p := b) (by omega) (by omega)
      have e2 : eqS (iv2 3) A.1.1 := k2.eq
      have e3 : iv3 3 = iv2 3 := m2 3 (by decide) (by decide)
      rw [reaV_eq e2 _ _ (by omega) (by omega)] at m1
      have m1' : call X xT (d + 11) 53 [.inr (.inr (some 17)), .inr (.inr (some 2)), .inr (.inr r), .inl (nI a), .inl (nI b)] (SS im lw tl, iv2, lv1) = some (some (.inl (reaV A.1.1 (lawOf A.1).1 (lawOf A.1).2 a b)), (SS im lw tl, iv3, lv3)) := m1
      rw [k1, bV_some, sg125_49, r1, bR_some, sg125_61, m1', bI_some, sg125_66, c_reactF (sc2 im lw tl) p1 (by omega) (by omega) (by rw [e3, e2 0 (by omega)]; exact hk.np.1), bV_some, sg125_76]
      refine ⟨_, lv3, rfl, RelC.sc (k2.ag m2) (f := reactF A.1.1 (nP A.1.1) (reaV A.1.1 (lawOf A.1).1 (lawOf A.1).2 a b) a b) ?_, ?_, (g3.tr m3).mid⟩
      · rw [e3]; exact reactF_eq e2 _ p1 (by omega) (by omega)
      · exact ((g2.mid.tr (k3.mid (by intro x hx; simp at hx; omega))).tr m2.mid).tr (mid_upr _ _ (by decide))
    · rw [if_neg hm, if_neg hm]
      exact cq2 h g2 g3 rfl
  · rw [if_neg hp, if_neg hp]
    exact cq h rfl
theorem C_feed0 (t p : Int32) : CAct 121 [.inl t, .inl p] (a_feed t p) := by
  intro X d im lw tl iv lv A h ho
  obtain ⟨p0, p1, t0, t1, hk⟩ := cfacts h ho
  have e := h.eq
  unfold a_feed
  rw [tr121, c_hasT (sc2 im lw tl), bI_some, sg121_13, b2i_ite, t0]
  cases ht : hasV (nI (nT A.1.1)) t
  · rw [if_neg (by decide), Bool.false_and, if_neg (by decide)]
    exact cq h rfl
  rw [if_pos rfl, Bool.true_and, c_hasP (sc2 im lw tl), bI_some, sg121_21, b2i_ite, p0]
  by_cases hp : hasV (nI (nP A.1.1)) p = true
  · rw [if_pos hp, if_pos hp]
    obtain ⟨a, ha, rfl⟩ := hasV_of (by omega) ht
    obtain ⟨b, hb, rfl⟩ := hasV_of (by omega) hp
    rw [nI_clamp (show a < 2 ^ 31 by omega), nI_clamp (show b < 2 ^ 31 by omega), c_get0 (sc2 im lw tl) (by omega), bI_some, sg121_34, e _ (by omega)]
    obtain ⟨q, q1, q2⟩ := hk.m (t := a) (by omega)
    by_cases hm : A.1.1 (27 + a) < nI 1
    · rw [if_pos hm, if_neg (fun q => by rw [fb_le] at q; rw [fb_lt] at hm; omega)]
      exact cq h rfl
    · rw [if_neg hm, if_pos (by rw [fb_le]; rw [fb_lt] at hm; omega)]
      obtain ⟨iv2, k1, k2, k3⟩ := c_keep X (d + 9) lv h ho (nI 1)
      have e2 : eqS (iv2 3) A.1.1 := k2.eq
      have e3 : eqS (feedF (iv2 3) a b) (feedF A.1.1 a b) := feedF_eq e2 (by omega) (by omega)
      rw [k1, bV_some, sg121_50, c_feeding X (d + 7) im lw tl iv2 lv (sc2 im lw tl) (by omega) (by omega), bV_some, sg121_60, c_get0 (sc2 im lw tl) (by omega), bI_some, sg121_66, upr_self, e3 _ (by omega)]
      exact ⟨_, lv, rfl, RelC.sc k2 (f := feedF A.1.1 a b) e3, (k3.mid (by intro x hx; simp at hx; omega)).tr (mid_upr _ _ (by decide)), midL.rf⟩
  · rw [if_neg hp, if_neg hp]
    exact cq h rfl
theorem C_move0 (p b : Int32) : CAct 124 [.inl p, .inl b] (a_move p b) := by
  intro X d im lw tl iv lv A h ho
  obtain ⟨p0, p1, t0, t1, hk⟩ := cfacts h ho
  have e := h.eq
  unfold a_move
  rw [tr124, c_within X (d + 10), bI_some, sg124_14, b2i_ite]
  by_cases hb : inV b (nI 7) = true
  · rw [if_pos hb, if_pos hb, c_hasP (sc2 im lw tl), bI_some, sg124_24, b2i_ite, p0]
    by_cases hp : hasV (nI (nP A.1.1)) p = true
    · rw [if_pos hp, if_pos hp]
      obtain ⟨q, hq, rfl⟩ := hasV_of (by omega) hp
      rw [nI_clamp (show q < 2 ^ 31 by omega)]
      obtain ⟨r, r1, r2⟩ := c_onTub (X := X) (d := d + 9) (lv := lv) (sc2 im lw tl) b p1 p0
      rw [tubV_eq e b _ _ (by omega)] at r2
      rw [r1, bI_some, sg124_35]
      by_cases ht : tubV A.1.1 b (nP A.1.1) 0 = true
      · rw [if_pos ht, if_neg (fun q => by rw [r2.mp q] at ht; cases ht)]
        exact cq h rfl
      · rw [if_neg ht, if_pos (r2.mpr (by simpa using ht))]
        obtain ⟨iv2, k1, k2, k3⟩ := c_keep X (d + 9) lv h ho (nI 2)
        have e2 : eqS (iv2 3) A.1.1 := k2.eq
        rw [k1, bV_some, sg124_51, c_get0 (sc2 im lw tl) (by omega), bI_some, sg124_58, c_set0 (sc2 im lw tl) (by omega), bV_some, sg124_68, e2 _ (by omega)]
        exact ⟨_, lv, rfl, RelC.sc k2 (f := pu A.1.1 (17 + q) b) (e2.put _ _), (k3.mid (by intro x hx; simp at hx; omega)).tr (mid_upr _ _ (by decide)), midL.rf⟩
    · rw [if_neg hp, if_neg hp]
      exact cq h rfl
  · rw [if_neg hb, if_neg hb]
    exact cq h rfl
theorem growV_eqS {f g : Sc} (h : eqS f g) (cl : Nat → CL) (n : Nat) : ∀ (m q : Nat), q + m ≤ 6 → eqS (growF cl n m q f) (growF cl n m q g) := by
  intro m
  induction m generalizing f g with
  | zero => intro q _; exact h
  | succ m ih =>
    intro q hq
    simp only [growF]
    refine ih ?_ (q + 1) (by omega)
    rw [growV_eq h cl n (by omega), h (5 + q) (by omega)]
    exact h.put _ _
theorem payF_eqS {f g : Sc} (h : eqS f g) (cl : Nat → CL) (n : Nat) : ∀ (m q : Nat), q + m ≤ 4 → eqS (payF cl n m q f) (payF cl n m q g) := by
  intro m
  induction m generalizing f g with
  | zero => intro q _; exact h
  | succ m ih =>
    intro q hq
    simp only [payF]
    refine ih ?_ (q + 1) (by omega)
    rw [wageV_eq h cl n (by omega), h (27 + q) (by omega)]
    exact h.put _ _
theorem dayF_eq {f g : Sc} (h : eqS f g) (cl : Nat → CL) (n : Nat) {np nt : Nat} (h1 : np ≤ 6) (h2 : nt ≤ 4) : eqS (dayF cl n np nt f) (dayF cl n np nt g) := by
  unfold dayF
  have e := payF_eqS (growV_eqS h cl n np 0 (by omega)) cl n nt 0 (by omega)
  rw [e 2 (by omega)]
  exact e.put _ _
theorem C_pass0 : CAct 114 [] a_pass := by
  intro X d im lw tl iv lv A h ho
  obtain ⟨p0, p1, t0, t1, hk⟩ := cfacts h ho
  have e := h.eq
  unfold a_pass
  rw [tr114, c_day0 (sc2 im lw tl), bI_some, sg114_12, e 2 (by omega)]
  by_cases hd : A.1.1 2 < nI 999
  · rw [if_pos hd, if_pos hd]
    obtain ⟨iv2, k1, k2, k3⟩ := c_keep X (d + 9) lv h ho (nI 3)
    have e2 : eqS (iv2 3) A.1.1 := k2.eq
    have ho2 := ho.stU (ho.push (k := 3) (by decide))
    obtain ⟨r, r1, r2⟩ := c_force (X := X) (d := d + 9) (lv := lv) k2 ho2
    obtain ⟨iv3, lv3, m1, m2, m3, m4⟩ := c_nextDay X (d + 6) im lw tl iv2 lv (sc2 im lw tl) (by decide) (by decide) p1 t1 ((e2 0 (by omega)).trans hk.np.1) ((e2 1 (by omega)).trans hk.nt.1) (r2 iv2 (fun _ _ => rfl))
    have e3 : eqS (iv3 3) (dayW A.1) := by
      rw [m2]
      exact dayF_eq e2 _ _ p1 t1
    rw [k1, bV_some, sg114_30, r1, bR_some, sg114_42, m1, bV_some, sg114_45, c_day0 (sc2 im lw tl), bI_some, sg114_49, e3 2 (by omega)]
    refine ⟨iv3, lv3, rfl, ?_, (k3.mid (by intro x hx; simp at hx; omega)).tr (m3.mid (by intro x hx; simp at hx; omega)), m4.mid⟩
    have hx := RelC.sc k2 (g := iv3 3) (f := dayW A.1) e3
    refine RelC.fr hx (fun a ha => ?_) (fun a ha => ?_)
    · by_cases c : a = 3
      · subst c; rw [upr_self]
      · rw [upr_off _ _ _ c]; exact m3 a (by simp [ncC] at ha; simp; omega)
    · rw [upr_off _ _ _ (by omega)]; exact m3 a (by simp; omega)
  · rw [if_neg hd, if_neg hd]
    exact cq h rfl
