/-! orders: the words of the class -/
def oWp (f : Sc) (c n j : Nat) : Int32 := if j < n then f (c + j) else -1
def oW (f : Sc) (r l : Int32) (k : Nat) : Int32 := if k = 0 then f 2 else if k = 1 then r else if k = 2 then l else if k < 9 then oWp f 5 (nP f) (k - 3) else if k < 15 then oWp f 11 (nP f) (k - 9) else if k < 19 then oWp f 27 (nT f) (k - 15) else oWp f 31 (nT f) (k - 19)
theorem hasV_no {m n : Nat} (h : ¬ m < n) (hm : m < 2 ^ 31) : hasV (nI n) (nI m) = false := by
  cases e : hasV (nI n) (nI m) with
  | false => rfl
  | true =>
    have := (of_decide_eq_true e).2
    exact absurd (by rw [fb_le, nI_toInt (by omega), nI_toInt hm]; omega) this
theorem ow1 (X : XE) (d : Nat) (im lw : List (Option Nat)) (tl : List XC) (lv : Nat → Nat → Int64) {n : Nat} (hn : n ≤ 6) : ∀ (m i : Nat) (iv : Nat → Nat → Int32) (w3 : Option XV), i + m = 6 → iv 3 0 = nI n → ∃ g w, run X (call X xT (d + 1)) false 0 xc111 20 [some (.inr (.inr (some 0))), some (.inr (.inr (some 2))), some (.inl (nI i)), w3] [] (SS im lw tl, iv, lv) = run X (call X xT (d + 1)) false 0 xc111 86 [some (.inr (.inr (some 0))), some (.inr (.inr (some 2))), some (.inl (nI 0)), w] [] (SS im lw tl, upr iv 42 g, lv) ∧ (∀ p, i ≤ p → p < 6 → g (3 + p) = oWp (iv 3) 5 n p ∧ g (9 + p) = oWp (iv 3) 11 n p) ∧ ∀ k, (k < 3 + i ∨ (9 ≤ k ∧ k < 9 + i) ∨ 15 ≤ k) → g k = iv 42 k := by
  intro m
  induction m with
  | zero =>
    intro i iv w3 hi h0
    have : i = 6 := by omega
    subst this
    rw [sg111_20, if_pos (by decide)]
    exact ⟨iv 42, w3, by rw [upr_id], fun p h1 h2 => by omega, fun k _ => rfl⟩
  | succ m ih =>
    intro i iv w3 hi h0
    have fin : ∀ (x y : Int32) (w : Option XV), x = oWp (iv 3) 5 n i → y = oWp (iv 3) 11 n i → ∃ g w', run X (call X xT (d + 1)) false 0 xc111 20 [some (.inr (.inr (some 0))), some (.inr (.inr (some 2))), some (.inl (nI (i + 1))), w] [] (SS im lw tl, upd2 (upd2 iv 42 (3 + i) x) 42 (9 + i) y, lv) = run X (call X xT (d + 1)) false 0 xc111 86 [some (.inr (.inr (some 0))), some (.inr (.inr (some 2))), some (.inl (nI 0)), w'] [] (SS im lw tl, upr iv 42 g, lv) ∧ (∀ p, i ≤ p → p < 6 → g (3 + p) = oWp (iv 3) 5 n p ∧ g (9 + p) = oWp (iv 3) 11 n p) ∧ ∀ k, (k < 3 + i ∨ (9 ≤ k ∧ k < 9 + i) ∨ 15 ≤ k) → g k = iv 42 k := by
      intro x y w hx hy
      have e3 : (upd2 (upd2 iv 42 (3 + i) x) 42 (9 + i) y) 3 = iv 3 := by rw [upd2_off _ _ _ _ (by decide), upd2_off _ _ _ _ (by decide)]
      obtain ⟨g, w', g1, g2, g3⟩ := ih (i + 1) (upd2 (upd2 iv 42 (3 + i) x) 42 (9 + i) y) w (by omega) (by rw [e3]; exact h0)
      refine ⟨g, w', ?_, fun p h1 h2 => ?_, fun k hk => ?_⟩
      · rw [g1]
        have : upr (upd2 (upd2 iv 42 (3 + i) x) 42 (9 + i) y) 42 g = upr iv 42 g := by
          rw [show iv = upr iv 42 (iv 42) from (upr_id iv 42).symm, upd2_upr, upd2_upr, upr_upr, upr_upr]
        rw [this]
      · by_cases e : p = i
        · subst e
          rw [g3 (3 + p) (by omega), g3 (9 + p) (by omega), upd2_ne _ _ _ _ (by omega), upd2_self, upd2_self]
          exact ⟨hx, hy⟩
        · have := g2 p (by omega) h2
          rw [e3] at this
          exact this
      · rw [g3 k (by omega), upd2_ne _ _ _ _ (by omega), upd2_ne _ _ _ _ (by omega)]
    rw [sg111_20, if_neg (nI_ge (by omega) (by omega)), c_hasP (sc2 im lw tl), bI_some, h0]
    by_cases hp : i < n
    · rw [hasV_nI hp (by omega)]
      show ∃ g w, run X _ false 0 xc111 31 _ [.inl (nI 1)] _ = _ ∧ _
      rw [sg111_31, if_neg n1z, c_get0 (sc2 im lw tl) (by omega), bI_some, nI_add, sg111_49, if_pos (inb_nI (by omega) (by omega)), if_neg n1z, c_get0 (sc2 im lw tl) (by omega), bI_some, nI_add, sg111_73, if_pos (inb_nI (by omega) (by omega)), nI_add, nI_clamp (by omega), nI_clamp (by omega)]
      exact fin _ _ _ (by unfold oWp; rw [if_pos hp]) (by unfold oWp; rw [if_pos hp, upd2_off _ _ _ _ (by decide)])
    · rw [hasV_no hp (by omega)]
      show ∃ g w, run X _ false 0 xc111 31 _ [.inl (nI 0)] _ = _ ∧ _
      rw [sg111_31, if_pos n0z, nI_add, nI_add, if_pos (inb_nI (by omega) (by omega)), if_pos n0z, if_pos (inb_nI (by omega) (by omega)), nI_add, nI_clamp (by omega), nI_clamp (by omega)]
      exact fin _ _ _ (by unfold oWp; rw [if_neg hp]) (by unfold oWp; rw [if_neg hp])
theorem ow2 (X : XE) (d : Nat) (im lw : List (Option Nat)) (tl : List XC) (lv : Nat → Nat → Int64) {n : Nat} (hn : n ≤ 4) : ∀ (m i : Nat) (iv : Nat → Nat → Int32) (w3 : Option XV), i + m = 4 → iv 3 1 = nI n → ∃ g, run X (call X xT (d + 1)) false 0 xc111 86 [some (.inr (.inr (some 0))), some (.inr (.inr (some 2))), some (.inl (nI i)), w3] [] (SS im lw tl, iv, lv) = some (none, (SS im lw tl, upr iv 42 g, lv)) ∧ (∀ p, i ≤ p → p < 4 → g (15 + p) = oWp (iv 3) 27 n p ∧ g (19 + p) = oWp (iv 3) 31 n p) ∧ ∀ k, (k < 15 + i ∨ (19 ≤ k ∧ k < 19 + i)) → g k = iv 42 k := by
  intro m
  induction m with
  | zero =>
    intro i iv w3 hi h0
    have : i = 4 := by omega
    subst this
    rw [sg111_86, if_pos (by decide)]
    exact ⟨iv 42, by rw [upr_id], fun p h1 h2 => by omega, fun k _ => rfl⟩
  | succ m ih =>
    intro i iv w3 hi h0
    have fin : ∀ (x y : Int32) (w : Option XV), x = oWp (iv 3) 27 n i → y = oWp (iv 3) 31 n i → ∃ g, run X (call X xT (d + 1)) false 0 xc111 86 [some (.inr (.inr (some 0))), some (.inr (.inr (some 2))), some (.inl (nI (i + 1))), w] [] (SS im lw tl, upd2 (upd2 iv 42 (15 + i) x) 42 (19 + i) y, lv) = some (none, (SS im lw tl, upr iv 42 g, lv)) ∧ (∀ p, i ≤ p → p < 4 → g (15 + p) = oWp (iv 3) 27 n p ∧ g (19 + p) = oWp (iv 3) 31 n p) ∧ ∀ k, (k < 15 + i ∨ (19 ≤ k ∧ k < 19 + i)) → g k = iv 42 k := by
      intro x y w hx hy
      have e3 : (upd2 (upd2 iv 42 (15 + i) x) 42 (19 + i) y) 3 = iv 3 := by rw [upd2_off _ _ _ _ (by decide), upd2_off _ _ _ _ (by decide)]
      obtain ⟨g, g1, g2, g3⟩ := ih (i + 1) (upd2 (upd2 iv 42 (15 + i) x) 42 (19 + i) y) w (by omega) (by rw [e3]; exact h0)
      refine ⟨g, ?_, fun p h1 h2 => ?_, fun k hk => ?_⟩
      · rw [g1]
        have : upr (upd2 (upd2 iv 42 (15 + i) x) 42 (19 + i) y) 42 g = upr iv 42 g := by
          rw [show iv = upr iv 42 (iv 42) from (upr_id iv 42).symm, upd2_upr, upd2_upr, upr_upr, upr_upr]
        rw [this]
      · by_cases e : p = i
        · subst e
          rw [g3 (15 + p) (by omega), g3 (19 + p) (by omega), upd2_ne _ _ _ _ (by omega), upd2_self, upd2_self]
          exact ⟨hx, hy⟩
        · have := g2 p (by omega) h2
          rw [e3] at this
          exact this
      · rw [g3 k (by omega), upd2_ne _ _ _ _ (by omega), upd2_ne _ _ _ _ (by omega)]
    rw [sg111_86, if_neg (nI_ge (by omega) (by omega)), c_hasT (sc2 im lw tl), bI_some, h0]
    by_cases hp : i < n
    · rw [hasV_nI hp (by omega)]
      show ∃ g, run X _ false 0 xc111 96 _ [.inl (nI 1)] _ = _ ∧ _
      rw [sg111_96, if_neg n1z, c_get0 (sc2 im lw tl) (by omega), bI_some, nI_add, sg111_116, if_pos (inb_nI (by omega) (by omega)), if_neg n1z, c_get0 (sc2 im lw tl) (by omega), bI_some, nI_add, sg111_140, if_pos (inb_nI (by omega) (by omega)), nI_add, nI_clamp (by omega), nI_clamp (by omega)]
      exact fin _ _ _ (by unfold oWp; rw [if_pos hp]) (by unfold oWp; rw [if_pos hp, upd2_off _ _ _ _ (by decide)])
    · rw [hasV_no hp (by omega)]
      show ∃ g, run X _ false 0 xc111 96 _ [.inl (nI 0)] _ = _ ∧ _
      rw [sg111_96, if_pos n0z, nI_add, nI_add, if_pos (inb_nI (by omega) (by omega)), if_pos n0z, if_pos (inb_nI (by omega) (by omega)), nI_add, nI_clamp (by omega), nI_clamp (by omega)]
      exact fin _ _ _ (by unfold oWp; rw [if_neg hp]) (by unfold oWp; rw [if_neg hp])
theorem c_owords (X : XE) (d : Nat) {im lw : List (Option Nat)} {tl : List XC} {iv : Nat → Nat → Int32} (lv : Nat → Nat → Int64) {A : St} (h : RelC A im lw tl iv) (ho : OKA A) : ∃ g, call X xT (d + 2) 111 [.inr (.inr (some 0))] (SS im lw tl, iv, lv) = some (none, (SS im lw tl, upr iv 42 g, lv)) ∧ ∀ k, k < 23 → g k = oW A.1.1 (iv 42 1) (iv 42 2) k := by
  obtain ⟨p0, p1, t0, t1, hk⟩ := cfacts h ho
  have e := h.eq
  have e3 : (upd2 iv 42 0 (iv 3 2)) 3 = iv 3 := upd2_off _ _ _ _ (by decide)
  obtain ⟨g, w, g1, g2, g3⟩ := ow1 X d im lw tl lv p1 6 0 (upd2 iv 42 0 (iv 3 2)) none (by omega) (by rw [e3]; exact p0)
  have e32 : (upr (upd2 iv 42 0 (iv 3 2)) 42 g) 3 = iv 3 := by rw [upr_off _ _ _ (by decide), e3]
  obtain ⟨g', k1, k2, k3⟩ := ow2 X d im lw tl lv t1 4 0 (upr (upd2 iv 42 0 (iv 3 2)) 42 g) w (by omega) (by rw [e32]; exact t0)
  rw [e3] at g2
  rw [e32] at k2
  rw [upr_self] at k3
  rw [tr111, c_day0 (sc2 im lw tl), bI_some, sg111_17, if_pos (by decide), show (nI 0).toNatClampNeg = 0 by decide, g1, k1]
  refine ⟨g', ?_, fun k hk => ?_⟩
  · have : upr (upr (upd2 iv 42 0 (iv 3 2)) 42 g) 42 g' = upr iv 42 g' := by
      rw [upr_upr, show iv = upr iv 42 (iv 42) from (upr_id iv 42).symm, upd2_upr, upr_upr, upr_upr]
    rw [this]
  · have ep : ∀ c n j, c + j < 59 → oWp (iv 3) c n j = oWp A.1.1 c n j := fun c n j hc => by unfold oWp; rw [e (c + j) hc]
    unfold oW
    by_cases c0 : k = 0
    · subst c0
      rw [if_pos rfl, k3 0 (by omega), g3 0 (by omega), upd2_self, e 2 (by omega)]
    rw [if_neg c0]
    by_cases c1 : k = 1
    · subst c1
      rw [if_pos rfl, k3 1 (by omega), g3 1 (by omega), upd2_ne _ _ _ _ (by omega)]
    rw [if_neg c1]
    by_cases c2 : k = 2
    · subst c2
      rw [if_pos rfl, k3 2 (by omega), g3 2 (by omega), upd2_ne _ _ _ _ (by omega)]
    rw [if_neg c2]
    by_cases c3 : k < 9
    · rw [if_pos c3, k3 k (by omega), show k = 3 + (k - 3) by omega, (g2 (k - 3) (by omega) (by omega)).1, ep _ _ _ (by omega), show 3 + (k - 3) - 3 = k - 3 by omega]
    rw [if_neg c3]
    by_cases c4 : k < 15
    · rw [if_pos c4, k3 k (by omega), show k = 9 + (k - 9) by omega, (g2 (k - 9) (by omega) (by omega)).2, ep _ _ _ (by omega), show 9 + (k - 9) - 9 = k - 9 by omega]
    rw [if_neg c4]
    by_cases c5 : k < 19
    · rw [if_pos c5, show k = 15 + (k - 15) by omega, (k2 (k - 15) (by omega) (by omega)).1, ep _ _ _ (by omega), show 15 + (k - 15) - 15 = k - 15 by omega]
    rw [if_neg c5, show k = 19 + (k - 19) by omega, (k2 (k - 19) (by omega) (by omega)).2, ep _ _ _ (by omega), show 19 + (k - 19) - 19 = k - 19 by omega]
