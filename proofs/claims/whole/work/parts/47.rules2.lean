/-- Rules.wage -/
def wageV (f : Nat → Int32) (cl : Nat → CL) (n t : Nat) : Int32 := match tellN cl 2 (wd f (some t) none) n with
  | some v => near (nI 99) v.toInt32
  | none => nI 5
theorem c_wage (X : XE) (d : Nat) (im lw : List (Option Nat)) (tl : List XC) (iv : Nat → Nat → Int32) (lv : Nat → Nat → Int64) {a c : Nat} (hs : scell (SS im lw tl) a c) (hc : c ≠ 20) {r : Option Nat} {cl : Nat → CL} {n : Nat} (hl : lawS (SS im lw tl) iv r cl n) {t : Nat} (ht : t < 4) :
    ∃ iv' lv', call X xT (d + 4) 48 [.inr (.inr (some 17)), .inr (.inr (some a)), .inr (.inr r), .inl (nI t)] (SS im lw tl, iv, lv) = some (some (.inl (wageV (iv c) cl n t)), (SS im lw tl, iv', lv')) ∧ agC iv iv' ∧ agL lv lv' := by
  have hw := c_setWords X d im lw tl iv lv hs hc (some t) none (by intro m e; injection e with e; omega) (by simp)
  obtain ⟨x, f, h1, h2⟩ := c_ask X d im lw tl iv lv hs hc (k := 2) (by decide) hl (some t) none
  refine ⟨_, _, ?_, agC_w iv (wrow (wd (iv c) (some t) none) (iv 20)) x, agL_w lv f⟩
  rw [tr48]
  show bV (call X xT (d + 3) 28 [_, _, .inl (wI (some t)), .inl (wI none)] _) _ = _
  rw [hw, bV_some, sg48_7, h1, bI_some, sg48_13, b2i_ite]
  unfold wageV
  cases hv : tellN cl 2 (wd (iv c) (some t) none) n with
  | none => rw [if_neg (by simp)]
  | some v => rw [if_pos (show (some v).isSome = true from rfl), c_near X (d + 1), bI_some, sg48_22, upr_at, h2 (by decide) v hv]
/-- Rules.anger -/
def angV (f : Nat → Int32) (cl : Nat → CL) (n t p : Nat) : Int32 := match tellN cl 0 (wd f (some t) (some p)) n with
  | some v => near (nI 30) v.toInt32
  | none => if nI 0 < f (5 + p) + f (11 + p) - f (35 + (t * 6 + p)) then f (5 + p) + f (11 + p) - f (35 + (t * 6 + p)) else nI 0
theorem c_anger (X : XE) (d : Nat) (im lw : List (Option Nat)) (tl : List XC) (iv : Nat → Nat → Int32) (lv : Nat → Nat → Int64) {a c : Nat} (hs : scell (SS im lw tl) a c) (hc : c ≠ 20) {r : Option Nat} {cl : Nat → CL} {n : Nat} (hl : lawS (SS im lw tl) iv r cl n) {t p : Nat} (ht : t < 4) (hp : p < 6) :
    ∃ iv' lv', call X xT (d + 4) 50 [.inr (.inr (some 17)), .inr (.inr (some a)), .inr (.inr r), .inl (nI t), .inl (nI p)] (SS im lw tl, iv, lv) = some (some (.inl (angV (iv c) cl n t p)), (SS im lw tl, iv', lv')) ∧ agC iv iv' ∧ agL lv lv' := by
  have hw := c_setWords X d im lw tl iv lv hs hc (some t) (some p) (by intro m e; injection e with e; omega) (by intro m e; injection e with e; omega)
  obtain ⟨x, f, h1, h2⟩ := c_ask X d im lw tl iv lv hs hc (k := 0) (by decide) hl (some t) (some p)
  refine ⟨_, _, ?_, agC_w iv (wrow (wd (iv c) (some t) (some p)) (iv 20)) x, agL_w lv f⟩
  rw [tr50]
  show bV (call X xT (d + 3) 28 [_, _, .inl (wI (some t)), .inl (wI (some p))] _) _ = _
  rw [hw, bV_some, sg50_8, h1, bI_some, sg50_14, b2i_ite]
  unfold angV
  cases hv : tellN cl 0 (wd (iv c) (some t) (some p)) n with
  | none =>
    rw [if_neg (by simp), upd2_off _ _ _ _ (show 20 ≠ 18 by decide), upr_self, wrow_in _ _ (show 2 < 10 by decide), wrow_in _ _ (show 3 < 10 by decide), wrow_in _ _ (show 4 < 10 by decide)]
    rfl
  | some v => rw [if_pos (show (some v).isSome = true from rfl), c_near X (d + 1), bI_some, sg50_23, upr_at, h2 (by decide) v hv]
/-- Rules.barred -/
def barV (f : Nat → Int32) (cl : Nat → CL) (n t p : Nat) : Bool := (tellN cl 3 (wd f (some t) (some p)) n).isSome
theorem c_barred (X : XE) (d : Nat) (im lw : List (Option Nat)) (tl : List XC) (iv : Nat → Nat → Int32) (lv : Nat → Nat → Int64) {a c : Nat} (hs : scell (SS im lw tl) a c) (hc : c ≠ 20) {r : Option Nat} {cl : Nat → CL} {n : Nat} (hl : lawS (SS im lw tl) iv r cl n) {t p : Nat} (ht : t < 4) (hp : p < 6) :
    ∃ iv' lv', call X xT (d + 4) 51 [.inr (.inr (some 17)), .inr (.inr (some a)), .inr (.inr r), .inl (nI t), .inl (nI p)] (SS im lw tl, iv, lv) = some (some (.inl (b2i (barV (iv c) cl n t p))), (SS im lw tl, iv', lv')) ∧ agC iv iv' ∧ agL lv lv' := by
  have hw := c_setWords X d im lw tl iv lv hs hc (some t) (some p) (by intro m e; injection e with e; omega) (by intro m e; injection e with e; omega)
  obtain ⟨x, f, h1, h2⟩ := c_ask X d im lw tl iv lv hs hc (k := 3) (by decide) hl (some t) (some p)
  refine ⟨_, _, ?_, agC_w iv (wrow (wd (iv c) (some t) (some p)) (iv 20)) x, agL_w lv f⟩
  rw [tr51]
  show bV (call X xT (d + 3) 28 [_, _, .inl (wI (some t)), .inl (wI (some p))] _) _ = _
  rw [hw, bV_some, sg51_8, h1, bI_some, sg51_14, if_pos (is01_b2i _)]
  rfl
theorem agC_c {im lw : List (Option Nat)} {tl : List XC} {a c : Nat} (hs : scell (SS im lw tl) a c) (hc : c ≠ 20) {iv iv' : Nat → Nat → Int32} (h : agC iv iv') : iv' c = iv c := by
  have e18 : (SS im lw tl)[18]? = some (2, 2, [some 19, none]) := rfl
  refine h c hc ?_
  intro e
  have h2 := hs.2.1
  rw [e, e18] at h2
  simp at h2
/-- Rules.loyal -/
def loyV (f : Nat → Int32) (cl : Nat → CL) (n t p : Nat) : Bool := decide (¬ f (23 + t) < angV f cl n t p)
theorem c_loyal (X : XE) (d : Nat) (im lw : List (Option Nat)) (tl : List XC) (iv : Nat → Nat → Int32) (lv : Nat → Nat → Int64) {a c : Nat} (hs : scell (SS im lw tl) a c) (hc : c ≠ 20) {r : Option Nat} {cl : Nat → CL} {n : Nat} (hl : lawS (SS im lw tl) iv r cl n) {t p : Nat} (ht : t < 4) (hp : p < 6) :
    ∃ iv' lv', call X xT (d + 5) 52 [.inr (.inr (some 17)), .inr (.inr (some a)), .inr (.inr r), .inl (nI t), .inl (nI p)] (SS im lw tl, iv, lv) = some (some (.inl (b2i (loyV (iv c) cl n t p))), (SS im lw tl, iv', lv')) ∧ agC iv iv' ∧ agL lv lv' := by
  obtain ⟨iv', lv', h1, h2, h3⟩ := c_anger X d im lw tl iv lv hs hc hl ht hp
  refine ⟨iv', lv', ?_, h2, h3⟩
  rw [tr52, h1, bI_some, sg52_9, objR_ok hs.1 rfl, c_get0 (d := d + 3) hs (by omega), bI_some, sg52_16, agC_c hs hc h2]
  unfold loyV
  by_cases h : iv c (23 + t) < angV (iv c) cl n t p
  · rw [if_pos h, decide_eq_false (by simpa using h)]; rfl
  · rw [if_neg h, decide_eq_true h]; rfl
/-- Rules.reaction -/
def reaV (f : Nat → Int32) (cl : Nat → CL) (n t p : Nat) : Int32 := if 0 < angV f cl n t p - f (23 + t) then (if nI 3 < angV f cl n t p - f (23 + t) then nI 0 else nI 1) else nI 2
theorem c_react (X : XE) (d : Nat) (im lw : List (Option Nat)) (tl : List XC) (iv : Nat → Nat → Int32) (lv : Nat → Nat → Int64) {a c : Nat} (hs : scell (SS im lw tl) a c) (hc : c ≠ 20) {r : Option Nat} {cl : Nat → CL} {n : Nat} (hl : lawS (SS im lw tl) iv r cl n) {t p : Nat} (ht : t < 4) (hp : p < 6) :
    ∃ iv' lv', call X xT (d + 5) 53 [.inr (.inr (some 17)), .inr (.inr (some a)), .inr (.inr r), .inl (nI t), .inl (nI p)] (SS im lw tl, iv, lv) = some (some (.inl (reaV (iv c) cl n t p)), (SS im lw tl, iv', lv')) ∧ agC iv iv' ∧ agL lv lv' := by
  obtain ⟨iv', lv', h1, h2, h3⟩ := c_anger X d im lw tl iv lv hs hc hl ht hp
  refine ⟨iv', lv', ?_, h2, h3⟩
  rw [tr53, h1, bI_some, sg53_9, objR_ok hs.1 rfl, c_get0 (d := d + 3) hs (by omega), bI_some, sg53_16, agC_c hs hc h2]
  unfold reaV
  split
  · split <;> rfl
  · rfl
