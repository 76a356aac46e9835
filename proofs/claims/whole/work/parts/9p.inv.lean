/-! the reference's reading: sums and tests as wholes; what holds all the way -/
theorem expr_sum {q : Bool} {tk : Nat → Nat} {nt : Nat} (he : tk nt = 9999) (hn : nt ≤ 400) {i c : Nat} (C : Cd) (hc : c ≤ 50) (hi : i ≤ nt) : (∀ e, pSum q tk 8 c i = .inl e → Rch q tk false (1, (i, C, [], 0, c)) (.inl e)) ∧ ∀ x c' i', pSum q tk 8 c i = .inr (x, c', i') → ∃ C' D, Rch q tk false (1, (i, C, [], 0, c)) (.inr (4, (i', C', D, 0, c'))) ∧ stl 1 D C' = (C ++ x.2.1, []) := by
  obtain ⟨a1, a2⟩ := sim_sum (q := q) (test := false) he hn 8 (Nat.le_refl _) i C [] c hc hi (fun x hx => by cases hx)
  refine ⟨a1, fun x c' i' h => ?_⟩
  obtain ⟨C', D, b1, b2, b3, b4⟩ := a2 x c' i' h
  rw [List.append_nil] at b3
  have l31 : ∀ y, y ∈ D → y.1 < 31 := fun y hy => by have := (b1 y hy).2.1; omega
  have s1 : stp q tk false (3, (i', C', D, 0, c')) = .inr (4, (i', C', D, 0, c')) := by
    show rSum tk false i' C' D 0 c' = _
    unfold rSum
    rw [opT_none b4]
    simp only
    have e : inn D = none := by have := inn_app D [] l31; rw [List.append_nil] at this; rw [this]; rfl
    rw [if_neg (by rw [e]; intro z; cases z), if_pos ⟨e, by first | rfl | trivial⟩]
  refine ⟨C', D, b3.tr (Rch.st s1 (Rch.rf _)), ?_⟩
  have := stl_app (m := 1) D [] C' (fun y hy => by have := (b1 y hy).2.2; omega) (fun x hx => by cases hx)
  rw [List.append_nil, b2] at this
  exact this
theorem expr_test {q : Bool} {tk : Nat → Nat} {nt : Nat} (he : tk nt = 9999) (hn : nt ≤ 400) {i c : Nat} (C : Cd) (hc : c ≤ 50) (hi : i ≤ nt) : (∀ e, pTest q tk 8 c i = .inl e → Rch q tk true (0, (i, C, [], 0, c)) (.inl e)) ∧ ∀ x c' i', pTest q tk 8 c i = .inr (x, c', i') → ∃ C' D, Rch q tk true (0, (i, C, [], 0, c)) (.inr (4, (i', C', D, 0, c'))) ∧ stl 1 D C' = (C ++ x.2.1 C.length, []) := by
  obtain ⟨a1, a2⟩ := sim_test (q := q) he hn 8 (Nat.le_refl _) i C [] c hc hi (fun x hx => by cases hx) (fun z => by cases z)
  refine ⟨a1, fun x c' i' h => ?_⟩
  obtain ⟨C', D, b1, b2, b3, b4⟩ := a2 x c' i' h
  rw [List.append_nil] at b3
  have s1 : stp q tk true (2, (i', C', D, 0, c')) = .inr (4, (i', C', D, 0, c')) := by
    show rTest tk i' C' D 0 c' = _
    unfold rTest
    have e : inn D = none := by have := inn_app D [] (fun y hy => (b1 y hy).1); rw [List.append_nil] at this; rw [this]; rfl
    rw [if_neg (b4.1 (by omega)), if_neg (b4.2 (by omega)), if_pos e]
  refine ⟨C', D, b3.tr (Rch.st s1 (Rch.rf _)), ?_⟩
  have := stl_app (m := 1) D [] C' (fun y hy => (b1 y hy).2) (fun x hx => by cases hx)
  rw [List.append_nil, b2] at this
  exact this
/-- how many of a pile go into the code -/
def cnP : Cd → Nat
  | [] => 0
  | x :: r => (if x.1 = 29 ∨ x.1 = 30 then 0 else 1) + cnP r
def pOK (C P : Cd) : Prop := ∀ y, y ∈ P → 20 ≤ y.1 ∧ y.1 ≤ 32 ∧ y.2 ≤ 400 ∧ ((y.1 = 29 ∨ y.1 = 30) → y.2 < C.length)
def pInv (nt i : Nat) (C P : Cd) (o c : Nat) : Prop := i ≤ nt ∧ C.length + cnP P ≤ i ∧ P.length ≤ i ∧ pOK C P ∧ o ≤ 8 ∧ c ≤ 50
theorem fl1_len (C : Cd) (x : Nat × Nat) : (fl1 C x).length = C.length + (if x.1 = 29 ∨ x.1 = 30 then 0 else 1) := by
  unfold fl1
  split
  · rw [List.length_set]; rfl
  · rw [List.length_append, List.length_singleton]
theorem stl_inv {m : Nat} : ∀ (P C : Cd), pOK C P → pOK (stl m P C).1 (stl m P C).2 ∧ (stl m P C).1.length + cnP (stl m P C).2 = C.length + cnP P ∧ (stl m P C).2.length ≤ P.length ∧ C.length ≤ (stl m P C).1.length := by
  intro P
  induction P with
  | nil => intro C h; exact ⟨h, rfl, Nat.le_refl _, Nat.le_refl _⟩
  | cons x r ih =>
    intro C h
    unfold stl
    by_cases e : m ≤ bnd x.1
    · rw [if_pos e]
      have l := fl1_len C x
      obtain ⟨a1, a2, a3, a4⟩ := ih (fl1 C x) (fun y hy => by
        obtain ⟨h1, h2, h3, h4⟩ := h y (by simp [hy])
        exact ⟨h1, h2, h3, fun z => by have := h4 z; omega⟩)
      refine ⟨a1, ?_, by rw [List.length_cons]; omega, by omega⟩
      rw [a2, l]
      show _ = C.length + ((if x.1 = 29 ∨ x.1 = 30 then 0 else 1) + cnP r)
      omega
    · rw [if_neg e]; exact ⟨h, rfl, Nat.le_refl _, Nat.le_refl _⟩
theorem cnP_tail : ∀ (P : Cd), cnP P.tail ≤ cnP P := by
  intro P
  cases P with
  | nil => exact Nat.le_refl _
  | cons x r => show cnP r ≤ _ + cnP r; omega
theorem opT_ok {t o : Nat} (h : opT t = some o) : 3 ≤ o ∧ o ≤ 7 ∧ t ≠ 9999 := by
  unfold opT at h
  cases ha : addT t with
  | some z =>
    rw [ha] at h
    injection h with h
    have := addT_ok ha
    refine ⟨by omega, by omega, fun e => ?_⟩
    rw [e] at ha; cases ha
  | none =>
    rw [ha] at h
    have := mulT_ok h
    refine ⟨by omega, by omega, fun e => ?_⟩
    rw [e] at h; cases h
theorem pInv_push {nt i : Nat} {C P : Cd} {o c x y o' : Nat} (h : pInv nt i C P o c) (hi : i < nt) (hx : 20 ≤ x) (hx2 : x ≤ 32) (hx3 : x ≠ 29) (hx4 : x ≠ 30) (hy : y ≤ 400) (ho : o' ≤ 8) : pInv nt (i + 1) C ((x, y) :: P) o' c := by
  obtain ⟨h1, h2, h3, h4, h5, h6⟩ := h
  refine ⟨by omega, ?_, by rw [List.length_cons]; omega, fun z hz => ?_, ho, h6⟩
  · show C.length + ((if x = 29 ∨ x = 30 then 0 else 1) + cnP P) ≤ _
    rw [if_neg (by omega)]; omega
  · rcases List.mem_cons.mp hz with hz | hz
    · rw [hz]; exact ⟨hx, hx2, hy, fun w => by have w : x = 29 ∨ x = 30 := w; omega⟩
    · exact h4 z hz
theorem pInv_stl {nt i : Nat} {C P : Cd} {o c : Nat} (m : Nat) (h : pInv nt i C P o c) : pInv nt i (stl m P C).1 (stl m P C).2 o c := by
  obtain ⟨h1, h2, h3, h4, h5, h6⟩ := h
  obtain ⟨a1, a2, a3, a4⟩ := stl_inv (m := m) P C h4
  exact ⟨h1, by omega, by omega, a1, h5, h6⟩
theorem pInv_tail {nt i : Nat} {C P : Cd} {o c : Nat} (h : pInv nt i C P o c) (hi : i < nt) : pInv nt (i + 1) C P.tail (o - 1) c := by
  obtain ⟨h1, h2, h3, h4, h5, h6⟩ := h
  have := cnP_tail P
  exact ⟨by omega, by omega, by rw [List.length_tail]; omega, fun y hy => h4 y (List.mem_of_mem_tail hy), by omega, h6⟩
theorem pInv_jump {nt i : Nat} {C P : Cd} {o c x : Nat} (h : pInv nt i C P o c) (hi : i < nt) (hn : nt ≤ 400) (hx : x = 29 ∨ x = 30) : pInv nt (i + 1) (C ++ [(x, 0)]) ((x, C.length) :: P) o c := by
  obtain ⟨h1, h2, h3, h4, h5, h6⟩ := h
  refine ⟨by omega, ?_, by rw [List.length_cons]; omega, fun z hz => ?_, h5, h6⟩
  · rw [List.length_append, List.length_singleton]
    show C.length + 1 + ((if x = 29 ∨ x = 30 then 0 else 1) + cnP P) ≤ _
    rw [if_pos hx]; omega
  · rw [List.length_append, List.length_singleton]
    rcases List.mem_cons.mp hz with hz | hz
    · rw [hz]; exact ⟨by show 20 ≤ x; omega, by show x ≤ 32; omega, by show C.length ≤ 400; omega, fun _ => by show C.length < C.length + 1; omega⟩
    · obtain ⟨z1, z2, z3, z4⟩ := h4 z hz
      exact ⟨z1, z2, z3, fun w => by have := z4 w; omega⟩
