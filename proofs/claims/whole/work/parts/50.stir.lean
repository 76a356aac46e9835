/-- tubs beside each other -/
def besV (x y : Int32) : Bool := decide ((if 0 ≤ (x - y) then x - y else 0 - (x - y)) = nI 1 ∨ (if 0 ≤ (x - y) then x - y else 0 - (x - y)) = nI 7)
theorem c_beside {X : XE} {d : Nat} {S : List XC} {iv : Nat → Nat → Int32} {lv : Nat → Nat → Int64} (x y : Int32) : call X xT (d + 1) 129 [.inl x, .inl y] (S, iv, lv) = some (some (.inl (b2i (besV x y))), (S, iv, lv)) := by
  rw [tr129]
  unfold besV
  by_cases h1 : (if 0 ≤ (x - y) then x - y else 0 - (x - y)) = nI 1
  · rw [if_pos h1, decide_eq_true (Or.inl h1)]; rfl
  · rw [if_neg h1]
    by_cases h2 : (if 0 ≤ (x - y) then x - y else 0 - (x - y)) = nI 7
    · rw [if_pos h2, decide_eq_true (Or.inr h2)]; rfl
    · rw [if_neg h2, decide_eq_false (fun q => q.elim h1 h2)]; rfl
/-- the tempers beside a tub changed, of the provinces from q on, m of them -/
def stirF (b : Int32) (u : Int32) : Nat → Nat → (Nat → Int32) → (Nat → Int32)
  | 0, _, f => f
  | m + 1, q, f => stirF b u m (q + 1) (if besV u (f (17 + q)) = true then pu f (11 + q) (near (nI 9) (f (11 + q) + b)) else f)
theorem c_stir_loop {X : XE} {d : Nat} {S : List XC} {lv : Nat → Nat → Int64} {a c : Nat} (h : scell S a c) (v1 b u : Int32) {n : Nat} (hn : n ≤ 6) : ∀ (m q : Nat) (iv : Nat → Nat → Int32), q + m = n → iv c 0 = nI n → run X (call X xT (d + 2)) false 0 xc128 11 [some (.inr (.inr (some a))), some (.inl v1), some (.inl b), some (.inl u), some (.inl (nI q))] [] (S, iv, lv) = some (none, (S, upr iv c (stirF b u m q (iv c)), lv)) := by
  intro m
  induction m with
  | zero =>
    intro q iv hq h0
    rw [sg128_11, obj_ok (ci := 7) (fi := 0) h.1 rfl (show (0 : Nat) < 1 by decide)]
    show ild X S iv (some c) 50 (nI 0) _ = _
    rw [ild_ok X iv h.2.2 h.2.1 rfl (inb_nI (show 0 < 59 by decide) (by omega)), nI_clamp (by omega), h0, if_pos (nI_le (by omega) (by omega))]
    simp only [stirF]
    rw [upr_id]
  | succ m ih =>
    intro q iv hq h0
    rw [sg128_11, obj_ok (ci := 7) (fi := 0) h.1 rfl (show (0 : Nat) < 1 by decide)]
    show ild X S iv (some c) 50 (nI 0) _ = _
    rw [ild_ok X iv h.2.2 h.2.1 rfl (inb_nI (show 0 < 59 by decide) (by omega)), nI_clamp (by omega), h0, if_neg (nI_ge (show q < n by omega) (by omega)), objR_ok h.1 rfl, c_get0 (d := d + 1) h (by omega), bI_some, sg128_31, c_beside (d := d + 1), bI_some, sg128_34, b2i_ite]
    simp only [stirF]
    by_cases hb : besV u (iv c (17 + q)) = true
    · rw [if_pos hb, if_pos hb, objR_ok h.1 rfl, c_change (d := d) h (by omega), bV_some, sg128_48, nI_add, ih (q + 1) _ (by omega) (by rw [upr_self, pu_n _ _ _ (by omega)]; exact h0), upr_self, upr_upr]
    · rw [if_neg hb, if_neg hb, sg128_48, nI_add, ih (q + 1) _ (by omega) h0]
theorem c_stir {X : XE} {d : Nat} {S : List XC} {iv : Nat → Nat → Int32} {lv : Nat → Nat → Int64} {a c : Nat} (h : scell S a c) {n p : Nat} (hn : n ≤ 6) (hp : p < 6) (h0 : iv c 0 = nI n) (b : Int32) : call X xT (d + 3) 128 [.inr (.inr (some a)), .inl (nI p), .inl b] (S, iv, lv) = some (none, (S, upr iv c (stirF b (iv c (17 + p)) n 0 (iv c)), lv)) := by
  rw [tr128, objR_ok h.1 rfl, c_get0 (d := d + 1) h (by omega), bI_some, sg128_7, c_stir_loop h _ _ _ hn n 0 iv (by omega) h0]
