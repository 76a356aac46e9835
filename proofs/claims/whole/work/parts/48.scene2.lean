/-! scenes of the class: what changes them -/
theorem c_set0 {X : XE} {d : Nat} {S : List XC} {iv : Nat → Nat → Int32} {lv : Nat → Nat → Int64} {a c : Nat} (h : scell S a c) {x y : Nat} (hj : x + y < 59) (v : Int32) : call X xT (d + 1) 5 [.inr (.inr (some a)), .inl (nI x), .inl (nI y), .inl v] (S, iv, lv) = some (none, (S, upr iv c (pu (iv c) (x + y) v), lv)) := by
  obtain ⟨h1, h2, h3⟩ := h
  rw [tr5, nI_add, if_neg (nI_pos (by omega)), if_neg (nI_ge hj (by omega)), obj_ok (ci := 7) (fi := 0) h1 rfl (show (0 : Nat) < 1 by decide)]
  show arr S (some c) 50 (nI (x + y)) _ = _
  rw [arr_ok h2 rfl (inb_nI hj (by omega)), nI_clamp (by omega), upd2_as]
theorem c_prov0 {X : XE} {d : Nat} {S : List XC} {iv : Nat → Nat → Int32} {lv : Nat → Nat → Int64} {a c : Nat} (h : scell S a c) : call X xT (d + 1) 19 [.inr (.inr (some a))] (S, iv, lv) = some (some (.inl (iv c 0)), (S, iv, lv)) := by
  obtain ⟨h1, h2, h3⟩ := h
  rw [tr19, obj_ok (ci := 7) (fi := 0) h1 rfl (show (0 : Nat) < 1 by decide)]
  show ild X S iv (some c) 50 (nI 0) _ = _
  rw [ild_ok X iv h3 h2 rfl (inb_nI (show 0 < 59 by decide) (by omega)), nI_clamp (by omega)]
theorem c_tam0 {X : XE} {d : Nat} {S : List XC} {iv : Nat → Nat → Int32} {lv : Nat → Nat → Int64} {a c : Nat} (h : scell S a c) : call X xT (d + 1) 44 [.inr (.inr (some a))] (S, iv, lv) = some (some (.inl (iv c 1)), (S, iv, lv)) := by
  obtain ⟨h1, h2, h3⟩ := h
  rw [tr44, obj_ok (ci := 7) (fi := 0) h1 rfl (show (0 : Nat) < 1 by decide)]
  show ild X S iv (some c) 50 (nI 1) _ = _
  rw [ild_ok X iv h3 h2 rfl (inb_nI (show 1 < 59 by decide) (by omega)), nI_clamp (by omega)]
/-- from 0 on, below n -/
def hasV (n x : Int32) : Bool := decide (¬ x < 0 ∧ ¬ n ≤ x)
theorem c_hasP {X : XE} {d : Nat} {S : List XC} {iv : Nat → Nat → Int32} {lv : Nat → Nat → Int64} {a c : Nat} (h : scell S a c) (x : Int32) : call X xT (d + 1) 24 [.inr (.inr (some a)), .inl x] (S, iv, lv) = some (some (.inl (b2i (hasV (iv c 0) x))), (S, iv, lv)) := by
  obtain ⟨h1, h2, h3⟩ := h
  rw [tr24]
  unfold hasV
  by_cases hx : x < 0
  · rw [if_pos hx, decide_eq_false (fun q => q.1 hx)]; rfl
  · rw [if_neg hx, obj_ok (ci := 7) (fi := 0) h1 rfl (show (0 : Nat) < 1 by decide)]
    show ild X S iv (some c) 50 (nI 0) _ = _
    rw [ild_ok X iv h3 h2 rfl (inb_nI (show 0 < 59 by decide) (by omega)), nI_clamp (by omega)]
    by_cases hn : iv c 0 ≤ x
    · rw [if_pos hn, decide_eq_false (fun q => q.2 hn)]; rfl
    · rw [if_neg hn, decide_eq_true ⟨hx, hn⟩]; rfl
theorem c_hasT {X : XE} {d : Nat} {S : List XC} {iv : Nat → Nat → Int32} {lv : Nat → Nat → Int64} {a c : Nat} (h : scell S a c) (x : Int32) : call X xT (d + 1) 47 [.inr (.inr (some a)), .inl x] (S, iv, lv) = some (some (.inl (b2i (hasV (iv c 1) x))), (S, iv, lv)) := by
  obtain ⟨h1, h2, h3⟩ := h
  rw [tr47]
  unfold hasV
  by_cases hx : x < 0
  · rw [if_pos hx, decide_eq_false (fun q => q.1 hx)]; rfl
  · rw [if_neg hx, obj_ok (ci := 7) (fi := 0) h1 rfl (show (0 : Nat) < 1 by decide)]
    show ild X S iv (some c) 50 (nI 1) _ = _
    rw [ild_ok X iv h3 h2 rfl (inb_nI (show 1 < 59 by decide) (by omega)), nI_clamp (by omega)]
    by_cases hn : iv c 1 ≤ x
    · rw [if_pos hn, decide_eq_false (fun q => q.2 hn)]; rfl
    · rw [if_neg hn, decide_eq_true ⟨hx, hn⟩]; rfl
/-- Scene.change -/
theorem c_change {X : XE} {d : Nat} {S : List XC} {iv : Nat → Nat → Int32} {lv : Nat → Nat → Int64} {a c : Nat} (h : scell S a c) {x y : Nat} (hj : x + y < 59) (by_ top : Int32) : call X xT (d + 2) 118 [.inr (.inr (some a)), .inl (nI x), .inl (nI y), .inl by_, .inl top] (S, iv, lv) = some (none, (S, upr iv c (pu (iv c) (x + y) (near top (iv c (x + y) + by_))), lv)) := by
  rw [tr118, objR_ok h.1 rfl, c_get0 h hj, bI_some, sg118_12, objR_ok h.1 rfl, c_set0 h hj, bV_some, sg118_23]
  rfl
