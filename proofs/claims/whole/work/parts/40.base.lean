/-! THE PURE LAYER: small facts -/
/-- a truth as an int -/
def b2i (c : Bool) : Int32 := if c = true then nI 1 else nI 0
theorem b2i_t : b2i true = nI 1 := rfl
theorem b2i_f : b2i false = nI 0 := rfl
theorem b2i_0 (c : Bool) : (b2i c = 0) ↔ c = false := by cases c <;> decide
theorem b2i_n0 (c : Bool) : (¬ b2i c = 0) ↔ c = true := by cases c <;> decide
theorem b2i_ite {α : Type} (c : Bool) (a b : α) : (if b2i c = 0 then a else b) = if c = true then b else a := by cases c <;> simp [b2i_0]
theorem b2i_1 (c : Bool) : (b2i c = nI 1) ↔ c = true := by cases c <;> decide
theorem is01_b2i (c : Bool) : is01 (b2i c) = true := by cases c <;> decide
theorem nI1_ne0 : ¬ nI 1 = 0 := by decide
theorem nI0_eq0 : nI 0 = 0 := nI_0
theorem fb_lt64 (a b : Int64) : a < b ↔ a.toInt < b.toInt := Int64.lt_iff_toInt_lt
theorem fb_le64 (a b : Int64) : a ≤ b ↔ a.toInt ≤ b.toInt := Int64.le_iff_toInt_le
theorem fb_lt (a b : Int32) : a < b ↔ a.toInt < b.toInt := Int32.lt_iff_toInt_lt
theorem fb_le (a b : Int32) : a ≤ b ↔ a.toInt ≤ b.toInt := Int32.le_iff_toInt_le
theorem fb_eq (a b : Int32) : a = b ↔ a.toInt = b.toInt := Int32.toInt_inj.symm
theorem fb_rng (a : Int32) : -2147483648 ≤ a.toInt ∧ a.toInt ≤ 2147483647 := ⟨Int32.le_toInt a, by have := Int32.toInt_lt a; omega⟩
theorem inb_nI {n N : Nat} (h : n < N) (hn : n < 2147483648) : inb (nI n) N = true := by
  unfold inb
  rw [nI_clamp (by omega)]
  simp only [Bool.and_eq_true, decide_eq_true_eq]
  exact ⟨nI_pos (by omega), h⟩
theorem inb_of {x : Int32} {N : Nat} (h : inb x N = true) : ∃ n, n < N ∧ x = nI n := by
  unfold inb at h
  simp only [Bool.and_eq_true, decide_eq_true_eq] at h
  obtain ⟨j, hj, e⟩ := nI_of h.1
  refine ⟨j, ?_, e⟩
  rw [e, nI_clamp hj] at h
  exact h.2
/-- one place of a row -/
def pu {α : Type} (g : Nat → α) (k : Nat) (x : α) : Nat → α := fun j => if j = k then x else g j
theorem pu_s {α : Type} (g : Nat → α) (k : Nat) (x : α) : pu g k x k = x := by simp [pu]
theorem pu_n {α : Type} (g : Nat → α) (k : Nat) (x : α) {j : Nat} (h : j ≠ k) : pu g k x j = g j := by simp [pu, h]
theorem pu_pu {α : Type} (g : Nat → α) (k : Nat) (x y : α) : pu (pu g k x) k y = pu g k y := by
  funext j
  simp only [pu]
  split <;> rfl
theorem upd2_ne {α : Type} (f : Nat → Nat → α) (a k : Nat) (x : α) {b j : Nat} (h : ¬ (b = a ∧ j = k)) : upd2 f a k x b j = f b j := by simp only [upd2]; rw [if_neg h]
theorem upd2_upd2 {α : Type} (f : Nat → Nat → α) (a k : Nat) (x y : α) : upd2 (upd2 f a k x) a k y = upd2 f a k y := by
  funext b j
  simp only [upd2]
  split <;> rfl
theorem upd2_id {α : Type} (f : Nat → Nat → α) (a k : Nat) : upd2 f a k (f a k) = f := by
  funext b j
  simp only [upd2]
  split
  · rename_i h; rw [h.1, h.2]
  · rfl
theorem upd2_upr {α : Type} (f : Nat → Nat → α) (a k : Nat) (g : Nat → α) (x : α) : upd2 (upr f a g) a k x = upr f a (pu g k x) := by
  funext b j
  simp only [upd2, upr, pu]
  by_cases h : b = a
  · subst h; simp
  · simp [h]
theorem upd2_as {α : Type} (f : Nat → Nat → α) (a k : Nat) (x : α) : upd2 f a k x = upr f a (pu (f a) k x) := by
  funext b j
  simp only [upd2, upr, pu]
  by_cases h : b = a
  · subst h; simp
  · simp [h]
theorem upr_upr {α : Type} (f : Nat → Nat → α) (a : Nat) (g g2 : Nat → α) : upr (upr f a g) a g2 = upr f a g2 := by
  funext b j
  simp only [upr]
  split <;> rfl
theorem upr_id {α : Type} (f : Nat → Nat → α) (a : Nat) : upr f a (f a) = f := by
  funext b j
  simp only [upr]
  split
  · rename_i h; rw [h]
  · rfl
theorem upr_at {α : Type} (f : Nat → Nat → α) (a : Nat) (g : Nat → α) (k : Nat) : upr f a g a k = g k := by simp [upr]
/-- what a reference names is there -/
theorem obj_ok {ρ : Type} {S : List XC} {a ci fi : Nat} {c : XC} (h : S[a]? = some c) (h1 : c.1 = ci) (h2 : fi < c.2.1) (k : Nat → XC → Option ρ) : obj S (some a) ci fi k = k a c := by
  simp only [obj, h]
  exact if_pos ⟨h1, h2⟩
theorem objR_ok {ρ : Type} {S : List XC} {a ci : Nat} {c : XC} (h : S[a]? = some c) (h1 : c.1 = ci) (k : Nat → Option ρ) : objR S (some a) ci k = k a := by
  simp only [objR, h]
  exact if_pos h1
theorem arr_ok {ρ : Type} {S : List XC} {a kd : Nat} {i : Int32} {c : XC} (h : S[a]? = some c) (h1 : c.1 = kd) (h2 : inb i c.2.1 = true) (k : Nat → List (Option Nat) → Option ρ) : arr S (some a) kd i k = k a c.2.2 := by
  simp only [arr, h]
  rw [if_pos h1, if_pos h2]
theorem ild_ok {ρ : Type} (X : XE) {S : List XC} (iv : Nat → Nat → Int32) {a kd : Nat} {i : Int32} {c : XC} (ha : a < 1000000) (h : S[a]? = some c) (h1 : c.1 = kd) (h2 : inb i c.2.1 = true) (k : Int32 → Option ρ) : ild X S iv (some a) kd i k = k (iv a i.toNatClampNeg) := by
  simp only [ild]
  rw [if_pos ha, arr_ok h h1 h2]
theorem alen_ok {ρ : Type} (X : XE) {S : List XC} {a : Nat} {c : XC} (ha : a < 1000000) (h : S[a]? = some c) (h1 : 50 ≤ c.1) (k : Int32 → Option ρ) : alen X S (some a) k = k (nI c.2.1) := by
  simp only [alen]
  rw [if_pos ha]
  simp only [h]
  exact if_pos h1
/-- in(v, lo, hi) -/
theorem m_in (X : XE) (d : Nat) (im lw : List (Option Nat)) (tl : List XC) (iv : Nat → Nat → Int32) (lv : Nat → Nat → Int64) (x lo hi : Int64) : call X xT (d + 1) 201 [.inr (.inl x), .inr (.inl lo), .inr (.inl hi)] (SS im lw tl, iv, lv) = some (some (.inl (b2i (decide (lo ≤ x ∧ x ≤ hi)))), (SS im lw tl, iv, lv)) := by
  rw [tr201]
  by_cases h1 : x < lo
  · rw [if_pos ((lg_cmp_lt x lo).mpr h1), decide_eq_false (by rw [fb_le64, fb_le64]; rw [fb_lt64] at h1; omega)]; rfl
  · rw [if_neg (fun h => h1 ((lg_cmp_lt x lo).mp h))]
    by_cases h2 : hi < x
    · rw [if_pos ((lg_cmp_gt x hi).mpr h2), decide_eq_false (by rw [fb_le64, fb_le64]; rw [fb_lt64] at h2; omega)]; rfl
    · rw [if_neg (fun h => h2 ((lg_cmp_gt x hi).mp h)), decide_eq_true (by rw [fb_le64, fb_le64]; rw [fb_lt64] at h1 h2; omega)]; rfl
