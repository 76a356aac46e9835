/-! laws of the class: what the last clause that holds tells -/
/-- a clause: its kind, its test, its sum -/
abbrev CL : Type := Nat × ((Nat → Int32) → Option Int64) × ((Nat → Int32) → Option Int64)
def one1 (c : CL) (k : Nat) (w : Nat → Int32) : Option Int64 := if c.1 = k then (match c.2.1 w with
  | some x => if x = lN 0 then none else c.2.2 w
  | none => none) else none
def tellN (cl : Nat → CL) (k : Nat) (w : Nat → Int32) : Nat → Option Int64
  | 0 => none
  | m + 1 => match one1 (cl m) k w with
    | some v => some v
    | none => tellN cl k w m
/-- the place x of a code reckons f; -1: there is none -/
def plc (cd : Nat → Nat × Nat) (sz nw : Nat) (x : Int32) (f : (Nat → Int32) → Option Int64) : Prop := (x = -1 ∧ ∀ w, f w = some (lN 1)) ∨ ∃ i, i < 2000 ∧ x = nI i ∧ (∀ w, f w = ev cd sz w nw sz i []) ∧ ∀ w v, f w = some v → v.toInt32.toInt64 = v
/-- a program's clauses -/
def progr (S : List XC) (iv : Nat → Nat → Int32) (a : Nat) (rw : Nat → Int32) (n : Nat) : Prop :=
  ∃ c r M rs, S[a]? = some (5, 4, some c :: some r :: rs) ∧ S[r]? = some (50, M, []) ∧ r < 1000000 ∧ iv a 3 = nI n ∧ 5 * n ≤ M ∧ M < 1000 ∧ n ≤ 12 ∧ ∀ j, j < 5 * n → iv r j = rw j
theorem progr_top {im lw : List (Option Nat)} {tl : List XC} {iv : Nat → Nat → Int32} {a : Nat} {rw : Nat → Int32} {n : Nat} (h : progr (SS im lw tl) iv a rw n) (x : Int32) : progr (SS im lw tl) (upd2 iv 18 1 x) a rw n := by
  obtain ⟨c, r, M, rs, h1, h2, h3, h4, h5, h6, h7, h8⟩ := h
  have e18 : (SS im lw tl)[18]? = some (2, 2, [some 19, none]) := rfl
  have ha : a ≠ 18 := by intro e; rw [e, e18] at h1; simp at h1
  have hr : r ≠ 18 := by intro e; rw [e, e18] at h2; simp at h2
  exact ⟨c, r, M, rs, h1, h2, h3, by rw [upd2_off _ _ _ _ ha]; exact h4, h5, h6, h7, fun j hj => by rw [upd2_off _ _ _ _ hr]; exact h8 j hj⟩
theorem c_clauses {X : XE} {d : Nat} {S : List XC} {iv : Nat → Nat → Int32} {lv : Nat → Nat → Int64} {a : Nat} {rw : Nat → Int32} {n : Nat} (h : progr S iv a rw n) : call X xT (d + 1) 32 [.inr (.inr (some a))] (S, iv, lv) = some (some (.inl (nI n)), (S, iv, lv)) := by
  obtain ⟨c, r, M, rs, h1, h2, h3, h4, h5, h6, h7, h8⟩ := h
  rw [tr32, obj_ok (ci := 5) (fi := 3) h1 rfl (show (3 : Nat) < 4 by decide), h4]
theorem c_part {X : XE} {d : Nat} {S : List XC} {iv : Nat → Nat → Int32} {lv : Nat → Nat → Int64} {a : Nat} {rw : Nat → Int32} {n : Nat} (h : progr S iv a rw n) {i k : Nat} (hi : i < n) (hk : k < 5) : call X xT (d + 1) 33 [.inr (.inr (some a)), .inl (nI i), .inl (nI k)] (S, iv, lv) = some (some (.inl (rw (i * 5 + k))), (S, iv, lv)) := by
  obtain ⟨c, r, M, rs, h1, h2, h3, h4, h5, h6, h7, h8⟩ := h
  rw [tr33, pk_mul, nI_add, if_neg (nI_pos (by omega)), obj_ok (ci := 5) (fi := 1) h1 rfl (show (1 : Nat) < 4 by decide)]
  show alen X S (some r) _ = _
  rw [alen_ok X h3 h2 (show (50 : Nat) ≤ 50 by decide), if_neg (nI_ge (show i * 5 + k < M by omega) (by show M < 2 ^ 31; omega)), obj_ok (ci := 5) (fi := 1) h1 rfl (show (1 : Nat) < 4 by decide)]
  show ild X S iv (some r) 50 (nI (i * 5 + k)) _ = _
  rw [ild_ok X iv h3 h2 rfl (inb_nI (show i * 5 + k < M by omega) (by omega)), nI_clamp (by omega), h8 _ (by omega)]
theorem m1eq (n : Nat) : nI n - nI 1 = nI n + (-1) := by
  cases n with
  | zero => decide
  | succ n => rw [pk_m1, pk_sub (by omega)]; rfl
/-- a law of the class: no reference, no clause -/
def lawC (S : List XC) (iv : Nat → Nat → Int32) (r : Option Nat) (cl : Nat → CL) (n : Nat) : Prop := (r = none ∧ n = 0) ∨
  ∃ a cd sz rw, r = some a ∧ a < 1000000 ∧ progc S iv a cd sz ∧ sz ≤ 400 ∧ progr S iv a rw n ∧ ∀ i, i < n → rw (i * 5) = nI (cl i).1 ∧ (cl i).1 < 4 ∧ plc cd sz 10 (rw (i * 5 + 4)) (cl i).2.1 ∧ plc cd sz 10 (rw (i * 5 + 2)) (cl i).2.2 ∧ ((cl i).1 ≠ 3 → rw (i * 5 + 2) ≠ -1)
