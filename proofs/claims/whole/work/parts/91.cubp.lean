/-! cubs: what a row of feedings does, and that a province hangs on its own days alone -/
def eqP (p : Nat) (f g : Sc) : Prop := ∀ j, j < 59 → (∀ q, q < 6 → q ≠ p → j ≠ 5 + q ∧ ∀ t, t < 4 → j ≠ 35 + (t * 6 + q)) → f j = g j
theorem wd_p {p t : Nat} (hp : p < 6) (ht : t < 4) {f g : Sc} (h : eqP p f g) : wd f (some t) (some p) = wd g (some t) (some p) := by
  funext k
  match k with
  | 0 => rfl
  | 1 => rfl
  | 2 => exact h (5 + p) (by omega) (fun q h1 h2 => ⟨by omega, fun t ht => by omega⟩)
  | 3 => exact h (11 + p) (by omega) (fun q h1 h2 => ⟨by omega, fun t ht => by omega⟩)
  | 4 => exact h (35 + (t * 6 + p)) (by omega) (fun q h1 h2 => ⟨by omega, fun t' ht' => by omega⟩)
  | 5 => exact h (23 + t) (by omega) (fun q h1 h2 => ⟨by omega, fun t ht => by omega⟩)
  | 6 => exact h (27 + t) (by omega) (fun q h1 h2 => ⟨by omega, fun t ht => by omega⟩)
  | 7 => exact h (17 + p) (by omega) (fun q h1 h2 => ⟨by omega, fun t ht => by omega⟩)
  | 8 => exact h 2 (by omega) (fun q h1 h2 => ⟨by omega, fun t ht => by omega⟩)
  | 9 => exact h 4 (by omega) (fun q h1 h2 => ⟨by omega, fun t ht => by omega⟩)
  | k + 10 => rfl
theorem loyV_p {p t : Nat} (hp : p < 6) (ht : t < 4) {f g : Sc} (h : eqP p f g) (cl : Nat → CL) (n : Nat) : loyV f cl n t p = loyV g cl n t p := by
  unfold loyV angV
  rw [wd_p hp ht h, h (5 + p) (by omega) (fun q h1 h2 => ⟨by omega, fun t ht => by omega⟩), h (11 + p) (by omega) (fun q h1 h2 => ⟨by omega, fun t ht => by omega⟩), h (35 + (t * 6 + p)) (by omega) (fun q h1 h2 => ⟨by omega, fun t' ht' => by omega⟩), h (23 + t) (by omega) (fun q h1 h2 => ⟨by omega, fun t ht => by omega⟩)]
def hunL : Nat → Nat → Sc → Sc
  | 0, _, f => f
  | k + 1, q, f => hunL k (q + 1) (pu f (5 + q) (near (nI 9) (f (5 + q) + nI 1)))
theorem hunL_at : ∀ (k q : Nat) (f : Sc) (j : Nat), hunL k q f j = if 5 + q ≤ j ∧ j < 5 + q + k then near (nI 9) (f j + nI 1) else f j := by
  intro k
  induction k with
  | zero => intro q f j; rw [if_neg (by omega)]; rfl
  | succ k ih =>
    intro q f j
    show hunL k (q + 1) _ j = _
    rw [ih]
    by_cases e : j = 5 + q
    · subst e; rw [if_neg (by omega), if_pos (by omega), pu_s]
    · rw [pu_n _ _ _ e]
      by_cases c : 5 + q ≤ j ∧ j < 5 + q + (k + 1)
      · rw [if_pos c, if_pos (by omega)]
      · rw [if_neg c, if_neg (by omega)]
def dayC (t n : Nat) (f : Sc) (c : Nat) : Sc := hunL n 0 (if c < n then eatF f t c else f)
def dayP (t p : Nat) (f : Sc) (b : Bool) : Sc := pu (if b = true then eatF f t p else f) (5 + p) (near (nI 9) ((if b = true then eatF f t p else f) (5 + p) + nI 1))
theorem eqP_day {t n p c : Nat} (ht : t < 4) (hn : n ≤ 6) (hp : p < n) (hc : c ≤ n) {f g : Sc} (h : eqP p f g) : eqP p (dayC t n f c) (dayP t p g (decide (c = p))) := by
  have h1 : eqP p (if c < n then eatF f t c else f) (if decide (c = p) = true then eatF g t p else g) := by
    intro j hj hx
    by_cases e : c = p
    · subst e
      rw [if_pos hp, if_pos (decide_eq_true rfl)]
      unfold eatF
      rw [h (5 + c) (by omega) (fun q h1 h2 => ⟨by omega, fun t ht => by omega⟩), h (35 + (t * 6 + c)) (by omega) (fun q h1 h2 => ⟨by omega, fun t' ht' => by omega⟩)]
      simp only [pu]
      rw [h j hj hx]
    · rw [if_neg (c := decide (c = p) = true) (by simp [e])]
      by_cases c1 : c < n
      · rw [if_pos c1]
        have := hx c (by omega) e
        unfold eatF
        rw [pu_n _ _ _ (this.2 t ht), pu_n _ _ _ this.1]
        exact h j hj hx
      · rw [if_neg c1]; exact h j hj hx
  intro j hj hx
  unfold dayC dayP
  rw [hunL_at]
  by_cases e : j = 5 + p
  · subst e; rw [if_pos (by omega), pu_s, h1 (5 + p) hj hx]
  · rw [pu_n _ _ _ e]
    by_cases c : 5 + 0 ≤ j ∧ j < 5 + 0 + n
    · have := (hx (j - 5) (by omega) (by omega)).1
      omega
    · rw [if_neg c]; exact h1 j hj hx
/-- all days, and those of one province -/
def cubF (t n : Nat) (r : Sc) : Nat → Nat → Sc → Sc
  | 0, _, f => f
  | k + 1, d, f => cubF t n r k (d + 1) (dayC t n f (r d).toNatClampNeg)
def cubB (t p : Nat) (b : Nat → Bool) : Nat → Nat → Sc → Sc
  | 0, _, f => f
  | k + 1, d, f => cubB t p b k (d + 1) (dayP t p f (b d))
theorem cub_eqP {t n p : Nat} (ht : t < 4) (hn : n ≤ 6) (hp : p < n) {r : Sc} {b : Nat → Bool} : ∀ (k d : Nat) (f g : Sc), (∀ i, d ≤ i → i < d + k → ∃ a, a ≤ n ∧ r i = nI a ∧ b i = decide (a = p)) → eqP p f g → eqP p (cubF t n r k d f) (cubB t p b k d g) := by
  intro k
  induction k with
  | zero => intro d f g _ h; exact h
  | succ k ih =>
    intro d f g hr h
    obtain ⟨a, h1, h2, h3⟩ := hr d (by omega) (by omega)
    show eqP p (cubF t n r k (d + 1) (dayC t n f (r d).toNatClampNeg)) (cubB t p b k (d + 1) (dayP t p g (b d)))
    rw [h2, nI_clamp (by omega), h3]
    exact ih (d + 1) _ _ (fun i h1 h2 => hr i (by omega) (by omega)) (eqP_day ht hn hp h1 h)
theorem eqP.rf {p : Nat} {f : Sc} : eqP p f f := fun _ _ _ => rfl
/-- how many are loyal, each by its own days -/
def loyN (g : Nat → Bool) : Nat → Nat → Nat
  | 0, _ => 0
  | m + 1, q => (if g q = true then 1 else 0) + loyN g m (q + 1)
theorem loyN_le (g : Nat → Bool) : ∀ m q, loyN g m q ≤ m := by
  intro m
  induction m with
  | zero => intro q; exact Nat.le_refl _
  | succ m ih => intro q; simp only [loyN]; have := ih (q + 1); split <;> omega
theorem cntL_N {f : Sc} {l : Lw} {t : Nat} {g : Nat → Bool} : ∀ (m q x : Nat), (∀ i, q ≤ i → i < q + m → loyV f l.1 l.2 t i = g i) → cntL f l t m q (nI x) = nI (x + loyN g m q) := by
  intro m
  induction m with
  | zero => intro q x _; rfl
  | succ m ih =>
    intro q x h
    simp only [cntL, loyN]
    rw [h q (by omega) (by omega)]
    by_cases c : g q = true
    · rw [if_pos c, if_pos c, nI_add, ih (q + 1) (x + 1) (fun i h1 h2 => h i (by omega) (by omega)), Nat.add_assoc]
    · rw [if_neg c, if_neg c, ih (q + 1) x (fun i h1 h2 => h i (by omega) (by omega)), Nat.zero_add]
/-- rows in the order of their numbers -/
def rowOf (K : Nat) (r : Sc) (p m x : Nat) : Sc := fun i => if p ≤ i ∧ i < p + m then nI (x / K ^ (p + m - 1 - i) % K) else r i
def fre (_ _ : Nat) (_ : Sc) : Option Nat := some 0
theorem range_map_add {α : Type} (a b : Nat) (g : Nat → α) : (List.range (a + b)).map g = (List.range a).map g ++ (List.range b).map (fun x => g (a + x)) := by
  rw [List.range_add, List.map_append, List.map_map]; rfl
theorem lev_row_all {K : Nat} (hK : 0 < K) : ∀ (m p : Nat) (r : Sc) (c : Nat), lev K fre m p r c = (List.range (K ^ m)).map (fun x => (c, rowOf K r p m x)) := by
  intro m
  induction m with
  | zero =>
    intro p r c
    show [(c, r)] = [(c, rowOf K r p 0 0)]
    congr 2
    funext i; unfold rowOf; rw [if_neg (by omega)]
  | succ m ih =>
    intro p r c
    have loop : ∀ (k j : Nat), j + k = K → levI (lev K fre m (p + 1)) (fre p) p r c k j = (List.range (k * K ^ m)).map (fun x => (c, rowOf K r p (m + 1) (j * K ^ m + x))) := by
      intro k
      induction k with
      | zero => intro j _; rw [Nat.zero_mul]; rfl
      | succ k ik =>
        intro j hj
        show lev K fre m (p + 1) (pu r p (nI j)) (c + 0) ++ levI (lev K fre m (p + 1)) (fre p) p r c k (j + 1) = _
        rw [ih, ik (j + 1) (by omega), show (k + 1) * K ^ m = K ^ m + k * K ^ m by rw [Nat.succ_mul, Nat.add_comm], range_map_add]
        congr 1
        · apply List.map_congr_left
          intro x hx
          have hx : x < K ^ m := List.mem_range.mp hx
          congr 1
          funext i
          unfold rowOf
          by_cases e : i = p
          · subst e
            rw [if_neg (by omega), if_pos (by omega), pu_s, show i + (m + 1) - 1 - i = m by omega, Nat.mul_comm j, Nat.mul_add_div (Nat.pow_pos hK), Nat.div_eq_of_lt hx, Nat.add_zero, Nat.mod_eq_of_lt (by omega)]
          · by_cases c1 : p + 1 ≤ i ∧ i < p + 1 + m
            · rw [if_pos c1, if_pos (by omega), show p + (m + 1) - 1 - i = p + 1 + m - 1 - i by omega]
              have he : j * K ^ m = K ^ (p + 1 + m - 1 - i) * (K * (j * K ^ (i - p - 1))) := by
                rw [show m = (p + 1 + m - 1 - i) + (1 + (i - p - 1)) by omega, Nat.pow_add, Nat.pow_add, Nat.pow_one, show p + 1 + (p + 1 + m - 1 - i + (1 + (i - p - 1))) - 1 - i = p + 1 + m - 1 - i by omega]
                generalize K ^ (p + 1 + m - 1 - i) = u
                generalize K ^ (i - p - 1) = v
                rw [Nat.mul_left_comm, Nat.mul_left_comm j K v]
              rw [he, Nat.mul_add_div (Nat.pow_pos hK), Nat.mul_add_mod]
            · rw [if_neg c1, if_neg (by omega), pu_n _ _ _ e]
        · apply List.map_congr_left
          intro x _
          congr 2
          rw [Nat.succ_mul, Nat.add_assoc]
    have := loop K 0 (by omega)
    rw [show K * K ^ m = K ^ (m + 1) by rw [Nat.pow_succ, Nat.mul_comm]] at this
    show levI (lev K fre m (p + 1)) (fre p) p r c K 0 = _
    rw [this]
    apply List.map_congr_left
    intro x _
    rw [Nat.zero_mul, Nat.zero_add]
