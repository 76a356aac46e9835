/-! the rules of the class -/
theorem ev_congr {cd : Nat → Nat × Nat} {sz nw : Nat} {w w' : Nat → Int32} (hw : ∀ k, k < nw → w k = w' k) : ∀ (n i : Nat) (st : List Int64), ev cd sz w nw n i st = ev cd sz w' nw n i st := by
  intro n
  induction n with
  | zero => intro i st; rfl
  | succ n ih =>
    intro i st
    simp only [ev, ih]
    by_cases h : (cd i).2 < nw
    · rw [hw _ h]
    · simp only [if_neg h]
theorem plc_congr {cd : Nat → Nat × Nat} {sz nw : Nat} {x : Int32} {f : (Nat → Int32) → Option Int64} (h : plc cd sz nw x f) {w w' : Nat → Int32} (hw : ∀ k, k < nw → w k = w' k) : f w = f w' := by
  rcases h with ⟨-, q⟩ | ⟨i, -, -, q, -⟩
  · rw [q, q]
  · rw [q, q, ev_congr hw]
theorem tell_congr {S : List XC} {iv : Nat → Nat → Int32} {r : Option Nat} {cl : Nat → CL} {n : Nat} (h : lawC S iv r cl n) {w w' : Nat → Int32} (hw : ∀ k, k < 10 → w k = w' k) (k : Nat) : tellN cl k w n = tellN cl k w' n := by
  rcases h with ⟨-, e⟩ | ⟨a, cd, sz, rw, -, -, -, -, -, hc⟩
  · rw [e]; rfl
  · have key : ∀ m, m ≤ n → tellN cl k w m = tellN cl k w' m := by
      intro m
      induction m with
      | zero => intro _; rfl
      | succ m ih =>
        intro hm
        obtain ⟨-, -, c3, c4, -⟩ := hc m (by omega)
        have e : one1 (cl m) k w = one1 (cl m) k w' := by simp only [one1, plc_congr c3 hw, plc_congr c4 hw]
        simp only [tellN, e, ih (by omega)]
    exact key n (Nat.le_refl _)
/-- the class's paper: words and stack -/
def agC (iv iv' : Nat → Nat → Int32) : Prop := ∀ a, a ≠ 20 → a ≠ 18 → iv' a = iv a
def agL (lv lv' : Nat → Nat → Int64) : Prop := ∀ a, a ≠ 19 → lv' a = lv a
theorem agC.rf {iv : Nat → Nat → Int32} : agC iv iv := fun _ _ _ => rfl
theorem agL.rf {lv : Nat → Nat → Int64} : agL lv lv := fun _ _ => rfl
theorem agC.tr {a b c : Nat → Nat → Int32} (h : agC a b) (h2 : agC b c) : agC a c := fun x h3 h4 => (h2 x h3 h4).trans (h x h3 h4)
theorem agL.tr {a b c : Nat → Nat → Int64} (h : agL a b) (h2 : agL b c) : agL a c := fun x h3 => (h2 x h3).trans (h x h3)
theorem agC_w (iv : Nat → Nat → Int32) (f : Nat → Int32) (x : Int32) : agC iv (upd2 (upr iv 20 f) 18 1 x) := fun a h1 h2 => by rw [upd2_off _ _ _ _ h2, upr_off _ _ _ h1]
theorem agL_w (lv : Nat → Nat → Int64) (f : Nat → Int64) : agL lv (upr lv 19 f) := fun a h1 => by rw [upr_off _ _ _ h1]
/-- a law that stays one whatever the paper holds -/
def lawS (S : List XC) (iv : Nat → Nat → Int32) (r : Option Nat) (cl : Nat → CL) (n : Nat) : Prop := ∀ iv', agC iv iv' → lawC S iv' r cl n
theorem lawS.ag {S : List XC} {iv iv' : Nat → Nat → Int32} {r : Option Nat} {cl : Nat → CL} {n : Nat} (h : lawS S iv r cl n) (h2 : agC iv iv') : lawS S iv' r cl n := fun iv2 h3 => h iv2 (h2.tr h3)
def near (top x : Int32) : Int32 := if nI 0 < (if x < top then x else top) then (if x < top then x else top) else nI 0
theorem c_near (X : XE) (d : Nat) (im lw : List (Option Nat)) (tl : List XC) (iv : Nat → Nat → Int32) (lv : Nat → Nat → Int64) (top : Int32) : call X xT (d + 2) 41 [.inr (.inr (some 17)), .inl top] (SS im lw tl, iv, lv) = some (some (.inl (near top (lv 19 0).toInt32)), (SS im lw tl, iv, lv)) := by
  rw [tr41, tr40, bI_some, sg41_9]
  rfl
/-- the words are set, the law asked: what each rule begins with -/
theorem c_ask (X : XE) (d : Nat) (im lw : List (Option Nat)) (tl : List XC) (iv : Nat → Nat → Int32) (lv : Nat → Nat → Int64) {a c : Nat} (hs : scell (SS im lw tl) a c) (hc : c ≠ 20) {r : Option Nat} {cl : Nat → CL} {n k : Nat} (hk : k < 4) (hl : lawS (SS im lw tl) iv r cl n) (t p : Option Nat) :
    ∃ x f, call X xT (d + 3) 31 [.inr (.inr (some 17)), .inr (.inr r), .inl (nI k)] (SS im lw tl, upr iv 20 (wrow (wd (iv c) t p) (iv 20)), lv) = some (some (.inl (b2i (tellN cl k (wd (iv c) t p) n).isSome)), (SS im lw tl, upd2 (upr iv 20 (wrow (wd (iv c) t p) (iv 20))) 18 1 x, upr lv 19 f)) ∧ (k ≠ 3 → ∀ v, tellN cl k (wd (iv c) t p) n = some v → f 0 = v) := by
  have hw : agC iv (upr iv 20 (wrow (wd (iv c) t p) (iv 20))) := fun a h1 h2 => upr_off _ _ _ h1
  have h := c_holds X d im lw tl (upr iv 20 (wrow (wd (iv c) t p) (iv 20))) lv hk (hl _ hw)
  rw [upr_self, tell_congr (hl _ hw) (fun j hj => wrow_in (wd (iv c) t p) (iv 20) hj) k] at h
  exact h
/-- Rules.growth -/
def growV (f : Nat → Int32) (cl : Nat → CL) (n p : Nat) : Int32 := match tellN cl 1 (wd f none (some p)) n with
  | some v => near (nI 9) v.toInt32
  | none => nI 1
theorem c_growth (X : XE) (d : Nat) (im lw : List (Option Nat)) (tl : List XC) (iv : Nat → Nat → Int32) (lv : Nat → Nat → Int64) {a c : Nat} (hs : scell (SS im lw tl) a c) (hc : c ≠ 20) {r : Option Nat} {cl : Nat → CL} {n : Nat} (hl : lawS (SS im lw tl) iv r cl n) {p : Nat} (hp : p < 6) :
    ∃ iv' lv', call X xT (d + 4) 27 [.inr (.inr (some 17)), .inr (.inr (some a)), .inr (.inr r), .inl (nI p)] (SS im lw tl, iv, lv) = some (some (.inl (growV (iv c) cl n p)), (SS im lw tl, iv', lv')) ∧ agC iv iv' ∧ agL lv lv' := by
  have hw := c_setWords X d im lw tl iv lv hs hc none (some p) (by simp) (by intro m e; injection e with e; omega)
  obtain ⟨x, f, h1, h2⟩ := c_ask X d im lw tl iv lv hs hc (k := 1) (by decide) hl none (some p)
  refine ⟨_, _, ?_, agC_w iv (wrow (wd (iv c) none (some p)) (iv 20)) x, agL_w lv f⟩
  rw [tr27]
  show bV (call X xT (d + 3) 28 [_, _, .inl (wI none), .inl (wI (some p))] _) _ = _
  rw [hw, bV_some, sg27_7, h1, bI_some, sg27_13, b2i_ite]
  unfold growV
  cases hv : tellN cl 1 (wd (iv c) none (some p)) n with
  | none => rw [if_neg (by simp)]
  | some v => rw [if_pos (show (some v).isSome = true from rfl), c_near X (d + 1), bI_some, sg27_22, upr_at, h2 (by decide) v hv]
