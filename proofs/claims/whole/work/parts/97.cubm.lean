/-! cubs: the reference -/
theorem m_pow (X : XE) (d : Nat) (im lw : List (Option Nat)) (tl : List XC) (iv : Nat → Nat → Int32) (lv : Nat → Nat → Int64) {n e : Nat} (hn : n ≤ 6) (he : e ≤ 4) (h0 : iv 48 0 = nI n) : call X xT (d + 1) 303 [.inr (.inr (some 46)), .inl (nI e)] (SS im lw tl, iv, lv) = some (some (.inl (nI ((n + 1) ^ e))), (SS im lw tl, iv, lv)) := by
  have loop : ∀ (k q : Nat), q + k = e → run X (call X xT d) false 1 xc303 4 [some (.inr (.inr (some 46))), some (.inl (nI e)), some (.inl (nI ((n + 1) ^ q))), some (.inl (nI q))] [] (SS im lw tl, iv, lv) = some (some (.inl (nI ((n + 1) ^ e))), (SS im lw tl, iv, lv)) := by
    intro k
    induction k with
    | zero =>
      intro q hq
      have : q = e := by omega
      subst this
      rw [sg303_4, if_pos (nI_le (by omega) (by omega))]
    | succ k ih =>
      intro q hq
      rw [sg303_4, if_neg (nI_ge (by omega) (by omega)), h0, nI_add, nI_add, pk_mul, ← Nat.pow_succ]
      exact ih (q + 1) (by omega)
  rw [tr303]
  exact loop e 0 (by omega)
theorem m_hun (X : XE) (d : Nat) (im lw : List (Option Nat)) (tl : List XC) (lv : Nat → Nat → Int64) {n : Nat} (hn : n ≤ 6) (v1 v2 v3 v4 v5 : Int32) : ∀ (k q : Nat) (g : Sc) (iv : Nat → Nat → Int32), q + k = n → g 0 = nI n → eqS g (fM (iv 48)) → ∃ iv' w6, run X (call X xT (d + 1)) false 1 xc304 59 [some (.inr (.inr (some 46))), some (.inl v1), some (.inl v2), some (.inl v3), some (.inl v4), some (.inl v5), some (.inl (nI q))] [] (SS im lw tl, iv, lv) = run X (call X xT (d + 1)) false 1 xc304 9 [some (.inr (.inr (some 46))), some (.inl v1), some (.inl v2), some (.inl v3), some (.inl (v4 + nI 1)), some (.inl v5), w6] [] (SS im lw tl, iv', lv) ∧ eqS (hunL k q g) (fM (iv' 48)) ∧ rowS (iv 48) (iv' 48) ∧ fr [48] iv iv' := by
  intro k
  induction k with
  | zero =>
    intro q g iv hq h0 he
    have e0 : iv 48 0 = nI n := by have := he 0 (by omega); rw [h0] at this; exact this.symm
    rw [sg304_59, e0, if_pos (nI_le (by omega) (by omega))]
    exact ⟨iv, _, rfl, he, fun _ _ => rfl, fun _ _ => rfl⟩
  | succ k ih =>
    intro q g iv hq h0 he
    have e0 : iv 48 0 = nI n := by have := he 0 (by omega); rw [h0] at this; exact this.symm
    have e8 : iv 48 (8 + q) = g (5 + q) := by rw [he (5 + q) (by omega), fM, mx_h (by omega)]
    rw [sg304_59, e0, if_neg (nI_ge (by omega) (by omega)), nI_add, if_pos (inb_nI (by omega) (by omega)), nI_clamp (by omega), e8, m_within, bI_some, sg304_98, if_pos (inb_nI (by omega) (by omega)), near_fit _ (by decide), nI_clamp (by omega), nI_add]
    have e1 : eqS (pu g (5 + q) (near (nI 9) (g (5 + q) + nI 1))) (fM ((upd2 iv 48 (8 + q) (near (nI 9) (g (5 + q) + nI 1))) 48)) := by
      rw [upd2_rw, show 8 + q = mx (5 + q) by rw [mx_h (by omega)]]
      exact eqS_pu he (by omega) _
    obtain ⟨iv1, w6, a1, a2, a3, a4⟩ := ih (q + 1) _ (upd2 iv 48 (8 + q) (near (nI 9) (g (5 + q) + nI 1))) (by omega) (by rw [pu_n _ _ _ (by omega)]; exact h0) e1
    refine ⟨iv1, w6, a1, a2, ?_, (fr_upd _ _ _ (by simp)).tr a4⟩
    have r1 : rowS (iv 48) ((upd2 iv 48 (8 + q) (near (nI 9) (g (5 + q) + nI 1))) 48) := by
      rw [upd2_rw]; exact fun i hi => pu_n _ _ _ (by omega)
    exact r1.tr a3
theorem dayC_0 {t n c : Nat} (f : Sc) : dayC t n f c 0 = f 0 := by
  unfold dayC
  rw [hunL_at, if_neg (by omega)]
  split
  · unfold eatF; rw [pu_n _ _ _ (by omega), pu_n _ _ _ (by omega)]
  · rfl
theorem m_cdays (X : XE) (d : Nat) (im lw : List (Option Nat)) (tl : List XC) (lv : Nat → Nat → Int64) {n t days x : Nat} (hn : n ≤ 6) (ht : t < 4) (hd : days ≤ 4) (hx : x < 100000) : ∀ (k q : Nat) (g : Sc) (iv : Nat → Nat → Int32) (w5 w6 : Option XV), q + k = days → g 0 = nI n → eqS g (fM (iv 48)) → ∃ iv' w5' w6', run X (call X xT (d + 2)) false 1 xc304 9 [some (.inr (.inr (some 46))), some (.inl (nI t)), some (.inl (nI days)), some (.inl (nI x)), some (.inl (nI q)), w5, w6] [] (SS im lw tl, iv, lv) = run X (call X xT (d + 2)) false 1 xc304 9 [some (.inr (.inr (some 46))), some (.inl (nI t)), some (.inl (nI days)), some (.inl (nI x)), some (.inl (nI days)), w5', w6'] [] (SS im lw tl, iv', lv) ∧ eqS (cubF t n (rowOf (n + 1) (fun _ => 0) 0 days x) k q g) (fM (iv' 48)) ∧ rowS (iv 48) (iv' 48) ∧ fr [48] iv iv' := by
  intro k
  induction k with
  | zero =>
    intro q g iv w5 w6 hq h0 he
    have : q = days := by omega
    subst this
    exact ⟨iv, w5, w6, rfl, he, fun _ _ => rfl, fun _ _ => rfl⟩
  | succ k ih =>
    intro q g iv w5 w6 hq h0 he
    have e0 : iv 48 0 = nI n := by have := he 0 (by omega); rw [h0] at this; exact this.symm
    have pp : 0 < (n + 1) ^ (days - 1 - q) := Nat.pow_pos (by omega)
    have pl : (n + 1) ^ (days - 1 - q) < 2 ^ 31 := by
      have h1 : (n + 1) ^ (days - 1 - q) ≤ 7 ^ (days - 1 - q) := Nat.pow_le_pow_left (by omega) _
      have h2 : 7 ^ (days - 1 - q) ≤ 7 ^ 4 := Nat.pow_le_pow_right (by omega) (by omega)
      have h3 : (7 : Nat) ^ 4 = 2401 := by decide
      omega
    have z1 : ∀ {m : Nat}, 0 < m → m < 2 ^ 31 → ¬ nI m = 0 := fun {m} h1 h2 e => by
      have := congrArg Int32.toNatClampNeg e
      rw [nI_clamp h2] at this
      have : m = 0 := this
      omega
    have dl : x / (n + 1) ^ (days - 1 - q) < 2 ^ 31 := by have := Nat.div_le_self x ((n + 1) ^ (days - 1 - q)); omega
    rw [sg304_9, if_neg (nI_ge (by omega) (by omega)), pk_sub (by omega), pk_sub (by omega), m_pow X (d + 1) im lw tl iv lv hn (by omega) e0, bI_some, sg304_26, if_neg (z1 pp pl), e0, nI_add, if_neg (z1 (by omega) (by omega)), pk_div (by omega) pp pl, pk_rem dl (by omega) (by omega)]
    have rd : rowOf (n + 1) (fun _ => 0) 0 days x q = nI (x / (n + 1) ^ (days - 1 - q) % (n + 1)) := by
      unfold rowOf; rw [if_pos (by omega), Nat.zero_add]
    have cm : x / (n + 1) ^ (days - 1 - q) % (n + 1) < n + 1 := Nat.mod_lt _ (by omega)
    show ∃ iv' w5' w6', _ ∧ eqS (cubF t n _ k (q + 1) (dayC t n g (rowOf (n + 1) (fun _ => 0) 0 days x q).toNatClampNeg)) (fM (iv' 48)) ∧ rowS (iv 48) (iv' 48) ∧ fr [48] iv iv'
    rw [rd, nI_clamp (by omega)]
    generalize x / (n + 1) ^ (days - 1 - q) % (n + 1) = c at cm
    have fin : ∀ iv1, eqS (if c < n then eatF g t c else g) (fM (iv1 48)) → rowS (iv 48) (iv1 48) → fr [48] iv iv1 → ∃ iv' w5' w6', run X (call X xT (d + 2)) false 1 xc304 56 [some (.inr (.inr (some 46))), some (.inl (nI t)), some (.inl (nI days)), some (.inl (nI x)), some (.inl (nI q)), some (.inl (nI c)), w6] [] (SS im lw tl, iv1, lv) = run X (call X xT (d + 2)) false 1 xc304 9 [some (.inr (.inr (some 46))), some (.inl (nI t)), some (.inl (nI days)), some (.inl (nI x)), some (.inl (nI days)), w5', w6'] [] (SS im lw tl, iv', lv) ∧ eqS (cubF t n (rowOf (n + 1) (fun _ => 0) 0 days x) k (q + 1) (dayC t n g c)) (fM (iv' 48)) ∧ rowS (iv 48) (iv' 48) ∧ fr [48] iv iv' := by
      intro iv1 e1 r1 f1
      have g0 : (if c < n then eatF g t c else g) 0 = nI n := by
        split
        · unfold eatF; rw [pu_n _ _ _ (by omega), pu_n _ _ _ (by omega)]; exact h0
        · exact h0
      obtain ⟨iv2, u6, a1, a2, a3, a4⟩ := m_hun X (d + 1) im lw tl lv hn (nI t) (nI days) (nI x) (nI q) (nI c) n 0 _ iv1 (by omega) g0 e1
      obtain ⟨iv3, t5, t6, b1, b2, b3, b4⟩ := ih (q + 1) (dayC t n g c) iv2 (some (.inl (nI c))) u6 (by omega) (by rw [dayC_0]; exact h0) a2
      rw [sg304_56, a1, nI_add]
      exact ⟨iv3, t5, t6, b1, b2, (r1.tr a3).tr b3, (f1.tr a4).tr b4⟩
    by_cases c1 : c < n
    · rw [if_neg (nI_ge c1 (by omega))]
      rw [if_pos c1] at fin
      obtain ⟨iv1, a1, a2, a3, a4⟩ := m_feedIt X d im lw tl iv lv he ht (show c < 6 by omega)
      rw [a1, bV_some]
      exact fin iv1 a2 a3 a4
    · rw [if_pos (nI_le (by omega) (by omega))]
      rw [if_neg c1] at fin
      exact fin iv he (fun _ _ => rfl) (fun _ _ => rfl)
