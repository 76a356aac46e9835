/-! the reference's next token -/
def txtM (b : Nat → Nat) (n : Nat) (iv : Nat → Nat → Int32) : Prop := iv 46 13 = nI n ∧ n ≤ 400 ∧ (∀ j, j < n → iv 55 j = nI (b j)) ∧ ∀ j, b j < 256
def frN (iv iv' : Nat → Nat → Int32) : Prop := ∀ a k, ¬ (a = 46 ∧ (k = 14 ∨ k = 15 ∨ k = 16)) → iv' a k = iv a k
def frO (lv lv' : Nat → Nat → Int64) : Prop := ∀ a k, ¬ (a = 46 ∧ k = 17) → lv' a k = lv a k
def wor (b : Nat → Nat) (n p : Nat) : Int64 := if p < n then (if kd (b p) = 3 then lN (b p) else if kd (b p) = 2 then lN (vm b (enT b n p - p) p 0) else wh b (enT b n p - p) p 0 (lN 0)) else lN 0
theorem u15 (A : Nat → Nat → Int32) (x y s : Int32) : upd2 (upd2 (upd2 A 46 15 x) 46 16 s) 46 15 y = upd2 (upd2 A 46 15 y) 46 16 s := by
  funext a k
  by_cases h : a = 46 ∧ k = 15
  · obtain ⟨rfl, rfl⟩ := h; rw [upd2_self, upd2_ne _ _ _ _ (by decide), upd2_self]
  · rw [upd2_ne _ _ _ _ h]
    by_cases h2 : a = 46 ∧ k = 16
    · obtain ⟨rfl, rfl⟩ := h2; rw [upd2_self, upd2_self]
    · rw [upd2_ne _ _ _ _ h2, upd2_ne _ _ _ _ h, upd2_ne _ _ _ _ h2, upd2_ne _ _ _ _ h]
section mn
variable (X : XE) (im lw : List (Option Nat)) (tl : List XC) {b : Nat → Nat} {n : Nat}
theorem m_small (d : Nat) (iv : Nat → Nat → Int32) (lv : Nat → Nat → Int64) {x : Nat} (hx : x < 256) : call X xT (d + 1) 239 [.inl (nI x)] (SS im lw tl, iv, lv) = some (some (.inl (b2i (decide (kd x = 1)))), (SS im lw tl, iv, lv)) := by
  rw [tr239]
  unfold kd
  by_cases h1 : x < 97
  · rw [if_pos (nI_lt h1 (by omega)), if_neg (show ¬ (97 ≤ x ∧ x ≤ 122) by omega)]
    rw [decide_eq_false (by split <;> (try split) <;> omega)]; rfl
  · rw [if_neg (nI_nlt (by omega) (by omega)), if_neg (show ¬ x = 32 by omega)]
    by_cases h2 : 122 < x
    · rw [if_pos (nI_lt h2 (by omega)), if_neg (show ¬ (97 ≤ x ∧ x ≤ 122) by omega)]
      rw [decide_eq_false (by split <;> omega)]; rfl
    · rw [if_neg (nI_nlt (by omega) (by omega)), if_pos (show 97 ≤ x ∧ x ≤ 122 by omega)]; rfl
theorem m_digit (d : Nat) (iv : Nat → Nat → Int32) (lv : Nat → Nat → Int64) {x : Nat} (hx : x < 256) : call X xT (d + 1) 240 [.inl (nI x)] (SS im lw tl, iv, lv) = some (some (.inl (b2i (decide (kd x = 2)))), (SS im lw tl, iv, lv)) := by
  rw [tr240]
  unfold kd
  by_cases h1 : x < 48
  · rw [if_pos (nI_lt h1 (by omega)), if_neg (show ¬ (97 ≤ x ∧ x ≤ 122) by omega), if_neg (show ¬ (48 ≤ x ∧ x ≤ 57) by omega)]
    rw [decide_eq_false (by split <;> omega)]; rfl
  · rw [if_neg (nI_nlt (by omega) (by omega)), if_neg (show ¬ x = 32 by omega)]
    by_cases h2 : 57 < x
    · rw [if_pos (nI_lt h2 (by omega)), if_neg (show ¬ (48 ≤ x ∧ x ≤ 57) by omega)]
      rw [decide_eq_false (by split <;> omega)]; rfl
    · rw [if_neg (nI_nlt (by omega) (by omega)), if_neg (show ¬ (97 ≤ x ∧ x ≤ 122) by omega), if_pos (show 48 ≤ x ∧ x ≤ 57 by omega)]; rfl
theorem m_skip (d : Nat) (lv : Nat → Nat → Int64) {iv : Nat → Nat → Int32} (h : txtM b n iv) : ∀ (m p : Nat), n - p ≤ m → p ≤ n → run X (call X xT (d + 1)) false 0 xc238 8 [some (.inr (.inr (some 46)))] [] (SS im lw tl, upd2 iv 46 14 (nI p), lv) = run X (call X xT (d + 1)) false 0 xc238 46 [some (.inr (.inr (some 46)))] [] (SS im lw tl, upd2 iv 46 14 (nI (sk b n p)), lv) := by
  obtain ⟨h1, h2, h3, h4⟩ := h
  have r13 : ∀ x, (upd2 iv 46 14 x) 46 13 = nI n := fun x => by rw [upd2_ne _ _ _ _ (by decide)]; exact h1
  intro m
  induction m with
  | zero =>
    intro p hm hp
    rw [sg238_8, upd2_self, r13, if_pos (nI_le (by omega) (by omega)), sk_id b (Or.inr (by omega))]
  | succ m ih =>
    intro p hm hp
    by_cases c : n ≤ p
    · rw [sg238_8, upd2_self, r13, if_pos (nI_le c (by omega)), sk_id b (Or.inr c)]
    · have hb := h4 p
      rw [sg238_8, upd2_self, r13, if_neg (nI_ge (by omega) (by omega)), if_pos (inb_nI (by omega) (by omega)), nI_clamp (by omega), upd2_off _ _ _ _ (by decide), h3 p (by omega)]
      by_cases e : b p = 32
      · rw [if_pos (by rw [e]), nI_add, upd2_upd2, ih (p + 1) (by omega) (by omega)]
        have : sk b n p = sk b n (p + 1) := by
          unfold sk
          rw [rnE_s b n 0 p, if_pos ⟨by omega, by unfold kd; rw [if_pos e]⟩]
        rw [this]
      · have ne : ¬ nI (b p) = nI 32 := fun z => e (by have := congrArg Int32.toNatClampNeg z; rw [nI_clamp (by omega), nI_clamp (by omega)] at this; exact this)
        rw [if_neg ne, sk_id b (Or.inl (by unfold kd; rw [if_neg e]; split <;> (try split) <;> omega))]
theorem m_wloop (d : Nat) (lv : Nat → Nat → Int64) {A : Nat → Nat → Int32} {p e : Nat} (hA13 : A 46 13 = nI n) (hA14 : A 46 14 = nI p) (hA55 : ∀ j, j < n → A 55 j = nI (b j)) (hn : n ≤ 400) (hb : ∀ j, b j < 256) (hpe : p ≤ e) (he : e ≤ n) (hl : ∀ j, p ≤ j → j < e → kd (b j) = 1) (hl2 : e < n → kd (b e) ≠ 1) : ∀ (k t : Nat) (w : Int64), t + k = e → p ≤ t → run X (call X xT (d + 1)) false 0 xc238 149 [some (.inr (.inr (some 46)))] [] (SS im lw tl, upd2 (upd2 A 46 15 (nI t)) 46 16 (nI 1), upd2 lv 46 17 w) = run X (call X xT (d + 1)) false 0 xc238 243 [some (.inr (.inr (some 46)))] [] (SS im lw tl, upd2 (upd2 A 46 15 (nI e)) 46 16 (nI 1), upd2 lv 46 17 (wh b k t (t - p) w)) := by
  have r13 : ∀ t, (upd2 (upd2 A 46 15 (nI t)) 46 16 (nI 1)) 46 13 = nI n := fun t => by rw [upd2_ne _ _ _ _ (by decide), upd2_ne _ _ _ _ (by decide)]; exact hA13
  have r14 : ∀ t, (upd2 (upd2 A 46 15 (nI t)) 46 16 (nI 1)) 46 14 = nI p := fun t => by rw [upd2_ne _ _ _ _ (by decide), upd2_ne _ _ _ _ (by decide)]; exact hA14
  have r15 : ∀ t, (upd2 (upd2 A 46 15 (nI t)) 46 16 (nI 1)) 46 15 = nI t := fun t => by rw [upd2_ne _ _ _ _ (by decide), upd2_self]
  have r55 : ∀ t j, j < n → (upd2 (upd2 A 46 15 (nI t)) 46 16 (nI 1)) 55 j = nI (b j) := fun t j hj => by rw [upd2_off _ _ _ _ (by decide), upd2_off _ _ _ _ (by decide)]; exact hA55 j hj
  intro k
  induction k with
  | zero =>
    intro t w ht hp
    have : t = e := by omega
    subst this
    rw [sg238_149, upd2_self, if_pos rfl, r13, r15]
    by_cases c : n ≤ t
    · rw [if_pos (nI_le c (by omega))]; rfl
    · rw [if_neg (nI_ge (by omega) (by omega)), if_pos (inb_nI (by omega) (by omega)), nI_clamp (by omega), r55 t t (by omega), m_small X im lw tl d _ _ (hb t), bI_some, sg238_180, b2i_ite, if_neg (show ¬ decide (kd (b t) = 1) = true by rw [decide_eq_false (hl2 (by omega))]; decide)]
      rfl
  | succ k ih =>
    intro t w ht hp
    have hk := hl t hp (by omega)
    have hbt := hb t
    rw [sg238_149, upd2_self, if_pos rfl, r13, r15, if_neg (nI_ge (by omega) (by omega)), if_pos (inb_nI (by omega) (by omega)), nI_clamp (by omega), r55 t t (by omega), m_small X im lw tl d _ _ (hb t), bI_some, sg238_180, b2i_ite, if_pos (decide_eq_true hk), r15, r14, pk_sub hp]
    have nx := ih (t + 1) (if 10 ≤ t - p then lN 18446744073709551615 else w * lN 32 + lN (b t) - lN 96) (by omega) (by omega)
    rw [show t + 1 - p = t - p + 1 by omega] at nx
    by_cases c : 10 ≤ t - p
    · rw [if_pos (nI_le c (by omega)), sg238_227, r15, nI_add, u15, upd2_upd2]
      rw [if_pos c] at nx
      rw [nx]
      show _ = run X _ false 0 xc238 243 _ [] (SS im lw tl, _, upd2 lv 46 17 (wh b k (t + 1) (t - p + 1) (if 10 ≤ t - p then _ else _)))
      rw [if_pos c]
    · rw [if_neg (nI_ge (by omega) (by omega)), if_pos (inb_nI (by omega) (by omega)), nI_clamp (by omega), r55 t t (by omega), nI_l (by omega), upd2_self, sg238_227, r15, nI_add, u15, upd2_upd2]
      rw [if_neg c] at nx
      rw [nx]
      show _ = run X _ false 0 xc238 243 _ [] (SS im lw tl, _, upd2 lv 46 17 (wh b k (t + 1) (t - p + 1) (if 10 ≤ t - p then _ else _)))
      rw [if_neg c]
theorem m_dloop (d : Nat) (lv : Nat → Nat → Int64) {A : Nat → Nat → Int32} {p e : Nat} (hA13 : A 46 13 = nI n) (hA55 : ∀ j, j < n → A 55 j = nI (b j)) (hn : n ≤ 400) (hb : ∀ j, b j < 256) (hpe : p ≤ e) (he : e ≤ n) (hl : ∀ j, p ≤ j → j < e → kd (b j) = 2) (hl2 : e < n → kd (b e) ≠ 2) : ∀ (k t : Nat) (w : Nat), t + k = e → p ≤ t → w ≤ 10000300 → run X (call X xT (d + 1)) false 0 xc238 243 [some (.inr (.inr (some 46)))] [] (SS im lw tl, upd2 (upd2 A 46 15 (nI t)) 46 16 (nI 2), upd2 lv 46 17 (lN w)) = run X (call X xT (d + 1)) false 0 xc238 335 [some (.inr (.inr (some 46)))] [] (SS im lw tl, upd2 (upd2 A 46 15 (nI e)) 46 16 (nI 2), upd2 lv 46 17 (lN (vm b k t w))) := by
  have r13 : ∀ t, (upd2 (upd2 A 46 15 (nI t)) 46 16 (nI 2)) 46 13 = nI n := fun t => by rw [upd2_ne _ _ _ _ (by decide), upd2_ne _ _ _ _ (by decide)]; exact hA13
  have r15 : ∀ t, (upd2 (upd2 A 46 15 (nI t)) 46 16 (nI 2)) 46 15 = nI t := fun t => by rw [upd2_ne _ _ _ _ (by decide), upd2_self]
  have r55 : ∀ t j, j < n → (upd2 (upd2 A 46 15 (nI t)) 46 16 (nI 2)) 55 j = nI (b j) := fun t j hj => by rw [upd2_off _ _ _ _ (by decide), upd2_off _ _ _ _ (by decide)]; exact hA55 j hj
  intro k
  induction k with
  | zero =>
    intro t w ht hp hw
    have : t = e := by omega
    subst this
    rw [sg238_243, upd2_self, if_pos rfl, r13, r15]
    by_cases c : n ≤ t
    · rw [if_pos (nI_le c (by omega))]; rfl
    · rw [if_neg (nI_ge (by omega) (by omega)), if_pos (inb_nI (by omega) (by omega)), nI_clamp (by omega), r55 t t (by omega), m_digit X im lw tl d _ _ (hb t), bI_some, sg238_274, b2i_ite, if_neg (show ¬ decide (kd (b t) = 2) = true by rw [decide_eq_false (hl2 (by omega))]; decide)]
      rfl
  | succ k ih =>
    intro t w ht hp hw
    have hk := hl t hp (by omega)
    have hk2 := kd_2 hk
    rw [sg238_243, upd2_self, if_pos rfl, r13, r15, if_neg (nI_ge (by omega) (by omega)), if_pos (inb_nI (by omega) (by omega)), nI_clamp (by omega), r55 t t (by omega), m_digit X im lw tl d _ _ (hb t), bI_some, sg238_274, b2i_ite, if_pos (decide_eq_true hk), r15, upd2_self]
    by_cases c : 1000000 < w
    · have nc : ¬ lg_cmp (lN w) (lN 1000000) ≤ 0 := fun z => by
        rw [lg_cmp_le, lN_le (by omega) (by omega)] at z; omega
      have nx := ih (t + 1) w (by omega) (by omega) hw
      rw [if_neg nc, sg238_319, r15, nI_add, u15, upd2_upd2, nx]
      show _ = run X _ false 0 xc238 335 _ [] (SS im lw tl, _, upd2 lv 46 17 (lN (vm b k (t + 1) (if 1000000 < w then _ else _))))
      rw [if_pos c]
    · have nc : lg_cmp (lN w) (lN 1000000) ≤ 0 := by
        rw [lg_cmp_le, lN_le (by omega) (by omega)]; omega
      have nx := ih (t + 1) (w * 10 + (b t - 48)) (by omega) (by omega) (by omega)
      rw [if_pos nc, if_pos (inb_nI (by omega) (by omega)), nI_clamp (by omega), r55 t t (by omega), nI_l (by omega), lN_mul, lN_add, lN_sub (by omega), show w * 10 + b t - 48 = w * 10 + (b t - 48) by omega, sg238_319, r15, nI_add, u15, upd2_upd2, nx]
      show _ = run X _ false 0 xc238 335 _ [] (SS im lw tl, _, upd2 lv 46 17 (lN (vm b k (t + 1) (if 1000000 < w then _ else _))))
      rw [if_neg c]
theorem m_nextP (d : Nat) (lv : Nat → Nat → Int64) {iv : Nat → Nat → Int32} (h : txtM b n iv) {t0 : Nat} (ht : iv 46 15 = nI t0) (ht0 : t0 ≤ n) : ∃ iv' lv', call X xT (d + 2) 238 [.inr (.inr (some 46))] (SS im lw tl, iv, lv) = some (none, (SS im lw tl, iv', lv')) ∧ iv' 46 14 = nI (sk b n t0) ∧ iv' 46 15 = nI (if sk b n t0 < n then enT b n (sk b n t0) else n) ∧ iv' 46 16 = nI (if sk b n t0 < n then kd (b (sk b n t0)) else 0) ∧ lv' 46 17 = wor b n (sk b n t0) ∧ frN iv iv' ∧ frO lv lv' := by
  have hh := h
  obtain ⟨h1, h2, h3, h4⟩ := h
  have hle := sk_le b ht0
  rw [tr238, ht, m_skip X im lw tl d lv hh (n - t0) t0 (Nat.le_refl _) ht0]
  have hkd : sk b n t0 < n → kd (b (sk b n t0)) ≠ 0 := sk_kd b
  generalize sk b n t0 = p at hle hkd ⊢
  have g13 : (upd2 iv 46 14 (nI p)) 46 13 = nI n := by rw [upd2_ne _ _ _ _ (by decide)]; exact h1
  have g14 : (upd2 iv 46 14 (nI p)) 46 14 = nI p := upd2_self _ _ _ _
  have g55 : ∀ j, j < n → (upd2 iv 46 14 (nI p)) 55 j = nI (b j) := fun j hj => by rw [upd2_off _ _ _ _ (by decide)]; exact h3 j hj
  have gN : ∀ t s, frN iv (upd2 (upd2 (upd2 iv 46 14 (nI p)) 46 15 t) 46 16 s) := fun t s a k hk => by
    rw [upd2_ne _ _ _ _ (by omega), upd2_ne _ _ _ _ (by omega), upd2_ne _ _ _ _ (by omega)]
  have gO : ∀ w, frO lv (upd2 lv 46 17 w) := fun w a k hk => upd2_ne _ _ _ _ hk
  have fin : ∀ (t s : Nat) (w : Int64), ∀ T, T = some (none, ((SS im lw tl, upd2 (upd2 (upd2 iv 46 14 (nI p)) 46 15 (nI t)) 46 16 (nI s), upd2 lv 46 17 w) : XH)) → ∃ iv' lv', (T : Option XR) = some (none, (SS im lw tl, iv', lv')) ∧ iv' 46 14 = nI p ∧ iv' 46 15 = nI t ∧ iv' 46 16 = nI s ∧ lv' 46 17 = w ∧ frN iv iv' ∧ frO lv lv' := fun t s w T hT =>
    ⟨_, _, hT, by rw [upd2_ne _ _ _ _ (by decide), upd2_ne _ _ _ _ (by decide), upd2_self], by rw [upd2_ne _ _ _ _ (by decide), upd2_self], by rw [upd2_self], by rw [upd2_self], gN _ _, gO _⟩
  rw [sg238_46, g14, g13]
  unfold wor
  by_cases c : p = n
  · subst c
    rw [if_pos rfl, sg238_114, if_neg (by decide), sg238_149, upd2_self, if_neg (by decide), sg238_243, upd2_self, if_neg (by decide), sg238_335, if_neg (by omega), if_neg (by omega), if_neg (by omega)]
    exact fin p 0 (lN 0) _ rfl
  · have hlt : p < n := by omega
    have ne : ¬ nI p = nI n := fun z => c (by have := congrArg Int32.toNatClampNeg z; rw [nI_clamp (by omega), nI_clamp (by omega)] at this; exact this)
    have hb := h4 p
    have hk := kd_le (b p)
    have hk0 := hkd hlt
    have hg := enT_gt b n p
    have he := enT_le b hlt
    rw [if_neg ne, if_pos (inb_nI (by omega) (by omega)), nI_clamp (by omega), g55 p hlt, m_small X im lw tl d _ _ hb, bI_some, sg238_87, b2i_ite, if_pos hlt, if_pos hlt, if_pos hlt]
    have r14 : (upd2 (upd2 iv 46 14 (nI p)) 46 15 (nI p)) 46 14 = nI p := by rw [upd2_ne _ _ _ _ (by decide)]; exact g14
    by_cases e1 : kd (b p) = 1
    · obtain ⟨x1, x2⟩ := enT_kd (b := b) (n := n) (p := p) (by omega)
      rw [e1] at x1 x2
      rw [if_pos (decide_eq_true e1), sg238_114, if_neg (by decide), m_wloop X im lw tl d lv g13 g14 g55 h2 h4 (by omega) he x1 x2 (enT b n p - p) p (lN 0) (by omega) (by omega), sg238_243, upd2_self, if_neg (by decide), sg238_335, Nat.sub_self, e1, if_neg (by decide), if_neg (by decide)]
      exact fin _ _ _ _ rfl
    · rw [if_neg (show ¬ decide (kd (b p) = 1) = true by rw [decide_eq_false e1]; decide), r14, if_pos (inb_nI (by omega) (by omega)), nI_clamp (by omega), upd2_off _ _ _ _ (by decide), g55 p hlt, m_digit X im lw tl d _ _ hb, bI_some, sg238_106, b2i_ite]
      by_cases e2 : kd (b p) = 2
      · obtain ⟨x1, x2⟩ := enT_kd (b := b) (n := n) (p := p) (by omega)
        rw [e2] at x1 x2
        rw [if_pos (decide_eq_true e2), sg238_114, if_neg (by decide), sg238_149, upd2_self, if_neg (by decide), m_dloop X im lw tl d lv g13 g55 h2 h4 (by omega) he x1 x2 (enT b n p - p) p 0 (by omega) (by omega) (by omega), sg238_335, e2, if_neg (by decide), if_pos rfl]
        exact fin _ _ _ _ rfl
      · have e3 : kd (b p) = 3 := by omega
        have r55 : (upd2 (upd2 iv 46 14 (nI p)) 46 15 (nI p)) 55 p = nI (b p) := by rw [upd2_off _ _ _ _ (by decide)]; exact g55 p hlt
        have r15 : (upd2 (upd2 iv 46 14 (nI p)) 46 15 (nI p)) 46 15 = nI p := upd2_self _ _ _ _
        rw [if_neg (show ¬ decide (kd (b p) = 2) = true by rw [decide_eq_false e2]; decide), sg238_114, if_pos rfl, r14, if_pos (inb_nI (by omega) (by omega)), nI_clamp (by omega), r55, r15, nI_add, u15, upd2_upd2, nI_l (by omega), sg238_149, upd2_self, if_neg (by decide), sg238_243, upd2_self, if_neg (by decide), sg238_335, e3, if_pos rfl, show enT b n p = p + 1 by unfold enT; rw [if_pos e3]]
        exact fin _ _ _ _ rfl
end mn
