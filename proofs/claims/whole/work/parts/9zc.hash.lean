/-! the reference's words: a number for each -/
def hs (l : List Nat) : Nat := l.foldl (fun w x => w * 32 + (x - 96)) 0
theorem hs_snoc (l : List Nat) (x : Nat) : hs (l ++ [x]) = hs l * 32 + (x - 96) := by unfold hs; rw [List.foldl_append]; rfl
theorem hs_lt : ∀ (m : Nat) (l : List Nat), l.length = m → (∀ x, x ∈ l → 97 ≤ x ∧ x ≤ 122) → hs l < 32 ^ m := by
  intro m
  induction m with
  | zero => intro l h _; rw [List.length_eq_zero_iff.mp h]; decide
  | succ m ih =>
    intro l h hl
    rcases List.eq_nil_or_concat l with e | ⟨t, x, e⟩
    · rw [e] at h; cases h
    · have e : l = t ++ [x] := by rw [e, List.concat_eq_append]
      subst e
      rw [List.length_append, List.length_singleton] at h
      have := ih t (by omega) (fun y hy => hl y (by simp [hy]))
      have hx := hl x (by simp)
      rw [hs_snoc, Nat.pow_succ]
      omega
theorem hs_inj : ∀ (m : Nat) (l l' : List Nat), l.length = m → (∀ x, x ∈ l → 97 ≤ x ∧ x ≤ 122) → (∀ x, x ∈ l' → 97 ≤ x ∧ x ≤ 122) → hs l = hs l' → l = l' := by
  intro m
  induction m with
  | zero =>
    intro l l' h hl hl' e
    have e0 := List.length_eq_zero_iff.mp h
    subst e0
    rcases List.eq_nil_or_concat l' with e2 | ⟨t, x, e2⟩
    · exact e2.symm
    · have e2 : l' = t ++ [x] := by rw [e2, List.concat_eq_append]
      subst e2
      have hx := hl' x (by simp)
      rw [hs_snoc, show hs [] = 0 from rfl] at e
      omega
  | succ m ih =>
    intro l l' h hl hl' e
    rcases List.eq_nil_or_concat l with e1 | ⟨t, x, e1⟩
    · rw [e1] at h; cases h
    · have e1 : l = t ++ [x] := by rw [e1, List.concat_eq_append]
      subst e1
      have hx := hl x (by simp)
      rw [List.length_append, List.length_singleton] at h
      rcases List.eq_nil_or_concat l' with e2 | ⟨t2, y, e2⟩
      · subst e2
        rw [hs_snoc, show hs [] = 0 from rfl] at e
        omega
      · have e2 : l' = t2 ++ [y] := by rw [e2, List.concat_eq_append]
        subst e2
        have hy := hl' y (by simp)
        rw [hs_snoc, hs_snoc] at e
        have : x = y := by omega
        subst this
        rw [ih t t2 (by omega) (fun z hz => hl z (by simp [hz])) (fun z hz => hl' z (by simp [hz])) (by omega)]
def wT (t : Nat) : List Nat := if t < 3000 then frW.getD (t - 2000) [] else paW.getD (t - 3000) []
def hT (t : Nat) : Nat := hs (wT t)
def knT (t : Nat) : Prop := (2000 ≤ t ∧ t ≤ 2014) ∨ (3000 ≤ t ∧ t ≤ 3012)
theorem kn_f : ∀ j, j < 15 → wcd (frW.getD j []) = 2000 + j ∧ (frW.getD j []).length ≤ 10 ∧ ∀ x, x ∈ frW.getD j [] → 97 ≤ x ∧ x ≤ 122 := by decide +kernel
theorem kn_p : ∀ j, j < 13 → wcd (paW.getD j []) = 3000 + j ∧ (paW.getD j []).length ≤ 10 ∧ ∀ x, x ∈ paW.getD j [] → 97 ≤ x ∧ x ≤ 122 := by decide +kernel
theorem kn_ok {t : Nat} (h : knT t) : wcd (wT t) = t ∧ (wT t).length ≤ 10 ∧ ∀ x, x ∈ wT t → 97 ≤ x ∧ x ≤ 122 := by
  unfold wT
  rcases h with h | h
  · rw [if_pos (by omega)]
    obtain ⟨a, b, c⟩ := kn_f (t - 2000) (by omega)
    exact ⟨by rw [a]; omega, b, c⟩
  · rw [if_neg (by omega)]
    obtain ⟨a, b, c⟩ := kn_p (t - 3000) (by omega)
    exact ⟨by rw [a]; omega, b, c⟩
theorem wix_is {ws : List (List Nat)} {l : List Nat} {j : Nat} (h : wix ws l = some j) : ws.getD j [] = l := by
  unfold wix at h
  obtain ⟨h1, h2, -⟩ := List.findIdx?_eq_some_iff_getElem.mp h
  rw [List.getD_eq_getElem?_getD, List.getElem?_eq_getElem h1]
  exact of_decide_eq_true h2
theorem wcd_is {l : List Nat} {t : Nat} (ht : knT t) : wcd l = t ↔ l = wT t := by
  constructor
  · intro h
    unfold wcd at h
    cases hw : wix frW l with
    | some j =>
      rw [hw] at h
      simp only at h
      have := wix_lt hw
      have : frW.length = 15 := rfl
      rw [← wix_is hw]
      unfold wT
      rw [if_pos (by omega), show t - 2000 = j by omega]
    | none =>
      rw [hw] at h
      simp only at h
      cases hw2 : wix paW l with
      | some j =>
        rw [hw2] at h
        simp only at h
        have := wix_lt hw2
        have : paW.length = 13 := rfl
        rw [← wix_is hw2]
        unfold wT
        rw [if_neg (by omega), show t - 3000 = j by omega]
      | none =>
        rw [hw2] at h
        simp only at h
        unfold knT at ht
        omega
  · intro h; rw [h]; exact (kn_ok ht).1
/-- the value that the reference makes of a word -/
def wh (b : Nat → Nat) : Nat → Nat → Nat → Int64 → Int64
  | 0, _, _, w => w
  | k + 1, p, j, w => wh b k (p + 1) (j + 1) (if 10 ≤ j then lN 18446744073709551615 else w * lN 32 + lN (b p) - lN 96)
theorem lN_eq64 {a c : Nat} (ha : a < 2 ^ 64) (hc : c < 2 ^ 64) : lN a = lN c ↔ a = c := by
  constructor
  · intro h
    have h : (lN a).toBitVec.toNat = (lN c).toBitVec.toNat := by rw [h]
    have e1 : (lN a).toBitVec.toNat = a % 2 ^ 64 := rfl
    have e2 : (lN c).toBitVec.toNat = c % 2 ^ 64 := rfl
    rw [e1, e2, Nat.mod_eq_of_lt ha, Nat.mod_eq_of_lt hc] at h
    exact h
  · intro h; rw [h]
theorem wh_long (b : Nat → Nat) : ∀ k p j, 10 ≤ j → 1 ≤ k → ∀ w, wh b k p j w = lN 18446744073709551615 := by
  intro k
  induction k with
  | zero => intro p j hj hk; omega
  | succ k ih =>
    intro p j hj hk w
    show wh b k (p + 1) (j + 1) (if 10 ≤ j then lN 18446744073709551615 else _) = _
    rw [if_pos hj]
    cases k with
    | zero => rfl
    | succ k => exact ih (p + 1) (j + 1) (by omega) (by omega) _
theorem lxm_snoc (b : Nat → Nat) {p e : Nat} (h : p ≤ e) : lxm b p (e + 1) = lxm b p e ++ [b e] := by
  unfold lxm
  rw [show e + 1 - p = (e - p) + 1 by omega, List.range_succ, List.map_append, List.map_singleton, show p + (e - p) = e by omega]
theorem lxm_mem {b : Nat → Nat} {p e x : Nat} (h : x ∈ lxm b p e) : ∃ j, p ≤ j ∧ j < e ∧ x = b j := by
  unfold lxm at h
  obtain ⟨j, h1, h2⟩ := List.mem_map.mp h
  have := List.mem_range.mp h1
  exact ⟨p + j, by omega, by omega, h2.symm⟩
/-- as far as ten letters it is the number -/
theorem wh_val (b : Nat → Nat) (p e : Nat) (hl : ∀ j, p ≤ j → j < e → 97 ≤ b j ∧ b j ≤ 122) : ∀ k z, z + k = e → p ≤ z → z - p ≤ 10 → wh b k z (z - p) (lN (hs (lxm b p z))) = if e - p ≤ 10 then lN (hs (lxm b p e)) else lN 18446744073709551615 := by
  intro k
  induction k with
  | zero =>
    intro z hz hp h10
    have : z = e := by omega
    subst this
    rw [if_pos h10]; rfl
  | succ k ih =>
    intro z hz hp h10
    by_cases h : z - p = 10
    · rw [wh_long b (k + 1) z (z - p) (by omega) (by omega), if_neg (by omega)]
    · have hb := hl z hp (by omega)
      show wh b k (z + 1) (z - p + 1) (if 10 ≤ z - p then lN 18446744073709551615 else lN (hs (lxm b p z)) * lN 32 + lN (b z) - lN 96) = _
      rw [if_neg (by omega), lN_mul, lN_add, lN_sub (by omega), show hs (lxm b p z) * 32 + b z - 96 = hs (lxm b p z) * 32 + (b z - 96) by omega, ← hs_snoc, ← lxm_snoc b hp, show z - p + 1 = z + 1 - p by omega]
      exact ih (z + 1) (by omega) (by omega) (by omega)
/-- which word it is -/
theorem wh_is (b : Nat → Nat) {p e t : Nat} (hpe : p ≤ e) (hl : ∀ j, p ≤ j → j < e → 97 ≤ b j ∧ b j ≤ 122) (ht : knT t) : wh b (e - p) p 0 (lN 0) = lN (hT t) ↔ wcd (lxm b p e) = t := by
  have v := wh_val b p e hl (e - p) p (by omega) (by omega) (by omega)
  have z0 : lxm b p p = [] := by unfold lxm; rw [Nat.sub_self]; rfl
  rw [Nat.sub_self, z0] at v
  have v : wh b (e - p) p 0 (lN 0) = _ := v
  obtain ⟨k1, k2, k3⟩ := kn_ok ht
  have hlt := hs_lt _ (wT t) rfl k3
  have hp10 : 32 ^ (wT t).length ≤ 32 ^ 10 := Nat.pow_le_pow_right (by omega) k2
  have c10 : (32 : Nat) ^ 10 = 1125899906842624 := by decide
  rw [v, wcd_is ht]
  unfold hT
  by_cases h : e - p ≤ 10
  · rw [if_pos h]
    have hm : ∀ x, x ∈ lxm b p e → 97 ≤ x ∧ x ≤ 122 := fun x hx => by obtain ⟨j, j1, j2, j3⟩ := lxm_mem hx; rw [j3]; exact hl j j1 j2
    have hl2 := hs_lt _ (lxm b p e) rfl hm
    rw [lxm_len] at hl2
    have hp11 : 32 ^ (e - p) ≤ 32 ^ 10 := Nat.pow_le_pow_right (by omega) h
    rw [lN_eq64 (by omega) (by omega)]
    constructor
    · intro q; exact hs_inj _ _ _ rfl hm k3 q
    · intro q; rw [q]
  · rw [if_neg h, lN_eq64 (by omega) (by omega)]
    constructor
    · intro q; omega
    · intro q
      have := congrArg List.length q
      rw [lxm_len] at this
      omega
/-- the value that it makes of digits -/
def vm (b : Nat → Nat) : Nat → Nat → Nat → Nat
  | 0, _, w => w
  | k + 1, p, w => vm b k (p + 1) (if 1000000 < w then w else w * 10 + (b p - 48))
theorem vm_vl (b : Nat → Nat) : ∀ k p w v, (w = v ∨ (1000000 < w ∧ 1000000 < v)) → (vm b k p w = vl b k p v ∨ (1000000 < vm b k p w ∧ 1000000 < vl b k p v)) := by
  intro k
  induction k with
  | zero => intro p w v h; exact h
  | succ k ih =>
    intro p w v h
    refine ih (p + 1) _ _ ?_
    by_cases c : 1000000 < w
    · rw [if_pos c]
      right
      rcases h with h | h
      · omega
      · omega
    · rw [if_neg c]
      rcases h with h | h
      · left; rw [h]
      · omega
theorem vm_lt (b : Nat → Nat) (hb : ∀ j, b j < 256) : ∀ k p w, w ≤ 10000300 → vm b k p w ≤ 10000300 := by
  intro k
  induction k with
  | zero => intro p w h; exact h
  | succ k ih =>
    intro p w h
    refine ih (p + 1) _ ?_
    have := hb p
    split
    · exact h
    · omega
