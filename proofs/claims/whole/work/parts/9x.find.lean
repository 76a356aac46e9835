/-! the class finds its tokens -/
theorem tI_tk {b : Nat → Nat} (hb : ∀ j, b j < 256) (n p : Nat) : tI (tkP b n p) = nI (tkP b n p) := by
  have := tkP_le hb n p
  unfold tI; rw [if_neg (by omega)]
section fnd
variable (X : XE) (im lw : List (Option Nat)) (tl : List XC) (lv : Nat → Nat → Int64) {b : Nat → Nat} {n : Nat}
def stoC (b : Nat → Nat) (n i : Nat) (iv : Nat → Nat → Int32) : Prop := ∀ j, j < i → plF b n j < n ∧ iv 15 j = nI (tkP b n (plF b n j)) ∧ iv 16 j = nI (plF b n j)
def fndR (b : Nat → Nat) (n : Nat) (iv : Nat → Nat → Int32) (T : Option XR) : Prop := ∃ iv', T = some (none, (SS im lw tl, iv', lv)) ∧ (∀ j, j ≤ ntF b n → iv' 15 j = tI (tkF b n j) ∧ iv' 16 j = nI (plF b n j)) ∧ iv' 11 5 = nI 0 ∧ iv' 11 6 = tI (tkF b n 0) ∧ fr [11, 15, 16] iv iv' ∧ ∀ k, k ≠ 5 → k ≠ 6 → iv' 11 k = iv 11 k
theorem c_find_in (d : Nat) {iv : Nat → Nat → Int32} (h : txtC b n iv) {p i k : Nat} (hk3 : k ≠ 3) (hk : k ≤ 3) (v2 v3 : Int32) : ∀ (m e : Nat), n - e ≤ m → e ≤ n → run X (call X xT (d + 1)) false 0 xc71 42 [some (.inr (.inr (some 11))), some (.inl (nI n)), some (.inl v2), some (.inl v3), some (.inl (nI k)), some (.inl (nI e))] [] (SS im lw tl, iv, lv) = if nI k = 0 then run X (call X xT (d + 1)) false 0 xc71 12 [some (.inr (.inr (some 11))), some (.inl (nI n)), some (.inl v2), some (.inl (nI (rnE b n k e))), some (.inl (nI k)), some (.inl (nI (rnE b n k e)))] [] (SS im lw tl, iv, lv) else bI (call X xT (d + 1) 73 [.inr (.inr (some 11)), .inl (nI k), .inl v3, .inl (nI (rnE b n k e))] (SS im lw tl, iv, lv)) (fun r2 h1 => run X (call X xT (d + 1)) false 0 xc71 96 [some (.inr (.inr (some 11))), some (.inl (nI n)), some (.inl v2), some (.inl v3), some (.inl (nI k)), some (.inl (nI (rnE b n k e)))] [.inl r2, .inl v2, .inr (.inr (some 15))] h1) := by
  have hn := h.2.1
  intro m
  induction m with
  | zero =>
    intro e hm he
    have er : rnE b n k e = e := by rw [rnE_s, if_neg (by omega)]
    rw [sg71_42, if_pos (nI_le (by omega) (by omega)), er]
  | succ m ih =>
    intro e hm he
    by_cases c : n ≤ e
    · have er : rnE b n k e = e := by rw [rnE_s, if_neg (by omega)]
      rw [sg71_42, if_pos (nI_le c (by omega)), er]
    · have ne3 : ¬ nI k = nI 3 := fun z => hk3 (by have := congrArg Int32.toNatClampNeg z; rw [nI_clamp (by omega), nI_clamp (by omega)] at this; exact this)
      rw [sg71_42, if_neg (nI_ge (by omega) (by omega)), if_neg ne3, c_byte X im lw tl lv d h (by omega), bI_some, if_pos (by omega), sg71_63, c_kind X im lw tl lv d iv (h.2.2.2 e), bI_some, sg71_66]
      have hk2 := kd_le (b e)
      by_cases q : kd (b e) = k
      · have er : rnE b n k e = rnE b n k (e + 1) := by rw [rnE_s b n k e, if_pos ⟨by omega, q⟩]
        rw [if_pos (by rw [q]), nI_add, ih (e + 1) (by omega) (by omega), er]
      · have nq : ¬ nI (kd (b e)) = nI k := fun z => q (by have := congrArg Int32.toNatClampNeg z; rw [nI_clamp (by omega), nI_clamp (by omega)] at this; exact this)
        have er : rnE b n k e = e := by rw [rnE_s, if_neg (fun z => q z.2)]
        rw [if_neg nq, er]
theorem c_find_loop (hX : XOK X) (d : Nat) : ∀ (m p i : Nat) (iv : Nat → Nat → Int32) (w4 w5 : Option XV), n - p ≤ m → txtC b n iv → p ≤ n → i ≤ p → sk b n p = plF b n i → stoC b n i iv → fndR im lw tl lv b n iv (run X (call X xT (d + 6)) false 0 xc71 12 [some (.inr (.inr (some 11))), some (.inl (nI n)), some (.inl (nI i)), some (.inl (nI p)), w4, w5] [] (SS im lw tl, iv, lv)) := by
  have fin : ∀ (i : Nat) (iv : Nat → Nat → Int32) (w4 w5 : Option XV), txtC b n iv → i ≤ n → sk b n n = plF b n i → stoC b n i iv → fndR im lw tl lv b n iv (run X (call X xT (d + 6)) false 0 xc71 12 [some (.inr (.inr (some 11))), some (.inl (nI n)), some (.inl (nI i)), some (.inl (nI n)), w4, w5] [] (SS im lw tl, iv, lv)) := by
    intro i iv w4 w5 ht hi hs hst
    have hn := ht.2.1
    have hpl : plF b n i = n := by rw [← hs]; exact sk_id b (Or.inr (Nat.le_refl _))
    have hnt : ntF b n = i := ntF_is hpl (fun j hj => (hst j hj).1)
    rw [sg71_12, if_pos (nI_le (by omega) (by omega)), if_pos (inb_nI (by omega) (by omega)), if_pos (inb_nI (by omega) (by omega)), nI_clamp (by omega)]
    have f15 : ∀ j, j ≤ i → (upd2 iv 15 i (-1)) 15 j = tI (tkF b n j) := by
      intro j hj
      by_cases e : j = i
      · rw [e, upd2_self, ← hnt, tkF_end]; rfl
      · obtain ⟨a1, a2, a3⟩ := hst j (by omega)
        rw [upd2_ne _ _ _ _ (by omega), a2]
        unfold tkF
        rw [if_pos a1, tI_tk ht.2.2.2]
    refine ⟨_, rfl, fun j hj => ⟨?_, ?_⟩, ?_, ?_, ((fr_upd _ _ _ (by simp)).tr (fr_upd _ _ _ (by simp))).tr ((fr_upd _ _ _ (by simp)).tr (fr_upd _ _ _ (by simp))), fun k h5 h6 => ?_⟩
    · rw [upd2_off _ _ _ _ (by decide), upd2_off _ _ _ _ (by decide), upd2_off _ _ _ _ (by decide)]
      exact f15 j (by omega)
    · rw [upd2_off _ _ _ _ (by decide), upd2_off _ _ _ _ (by decide)]
      by_cases e : j = i
      · rw [e, upd2_self, hpl]
      · rw [upd2_ne _ _ _ _ (by omega), upd2_off _ _ _ _ (by decide)]
        exact (hst j (by omega)).2.2
    · rw [upd2_ne _ _ _ _ (by decide), upd2_self]
    · rw [upd2_self]; exact f15 0 (by omega)
    · rw [upd2_ne _ _ _ _ (by omega), upd2_ne _ _ _ _ (by omega), upd2_off _ _ _ _ (by decide), upd2_off _ _ _ _ (by decide)]
  intro m
  induction m with
  | zero =>
    intro p i iv w4 w5 hm ht hp hi hs hst
    have : p = n := by omega
    subst this
    exact fin i iv w4 w5 ht hi hs hst
  | succ m ih =>
    intro p i iv w4 w5 hm ht hp hi hs hst
    have hn := ht.2.1
    by_cases c : p = n
    · subst c; exact fin i iv w4 w5 ht hi hs hst
    have hk := kd_le (b p)
    rw [sg71_12, if_neg (nI_ge (by omega) (by omega)), if_neg (nI_ge (by omega) (by omega)), c_byte X im lw tl lv (d + 5) ht (by omega), bI_some, if_pos (by omega), sg71_32, c_kind X im lw tl lv (d + 5) iv (ht.2.2.2 p), bI_some, sg71_35, nI_add]
    have hg := enT_gt b n p
    have hle := enT_le b (show p < n by omega)
    -- behind the run
    have ex : run X (call X xT (d + 6)) false 0 xc71 42 [some (.inr (.inr (some 11))), some (.inl (nI n)), some (.inl (nI i)), some (.inl (nI p)), some (.inl (nI (kd (b p)))), some (.inl (nI (p + 1)))] [] (SS im lw tl, iv, lv) = if nI (kd (b p)) = 0 then run X (call X xT (d + 6)) false 0 xc71 12 [some (.inr (.inr (some 11))), some (.inl (nI n)), some (.inl (nI i)), some (.inl (nI (enT b n p))), some (.inl (nI (kd (b p)))), some (.inl (nI (enT b n p)))] [] (SS im lw tl, iv, lv) else bI (call X xT (d + 6) 73 [.inr (.inr (some 11)), .inl (nI (kd (b p))), .inl (nI p), .inl (nI (enT b n p))] (SS im lw tl, iv, lv)) (fun r2 h1 => run X (call X xT (d + 6)) false 0 xc71 96 [some (.inr (.inr (some 11))), some (.inl (nI n)), some (.inl (nI i)), some (.inl (nI p)), some (.inl (nI (kd (b p)))), some (.inl (nI (enT b n p)))] [.inl r2, .inl (nI i), .inr (.inr (some 15))] h1) := by
      unfold enT
      by_cases e3 : kd (b p) = 3
      · rw [if_pos e3, sg71_42, e3]
        by_cases z : n ≤ p + 1
        · rw [if_pos (nI_le z (by omega))]
        · rw [if_neg (nI_ge (by omega) (by omega)), if_pos rfl]
      · rw [if_neg e3]
        exact c_find_in X im lw tl lv (d + 5) ht (p := p) (i := i) e3 hk (nI i) (nI p) (n - (p + 1)) (p + 1) (Nat.le_refl _) (by omega)
    rw [ex]
    by_cases e0 : kd (b p) = 0
    · rw [e0, if_pos n0z]
      have e : enT b n p = sk b n p := by
        unfold enT sk
        rw [if_neg (by omega), e0, rnE_s b n 0 p, if_pos ⟨by omega, e0⟩]
      exact ih (enT b n p) i iv _ _ (by omega) ht hle (by omega) (by rw [e, sk_sk]; exact hs) hst
    · have nz : ¬ nI (kd (b p)) = 0 := fun z => e0 (by have := congrArg Int32.toNatClampNeg z; rw [nI_clamp (by omega)] at this; exact this)
      have hpl : plF b n i = p := by rw [← hs]; exact sk_id b (Or.inl e0)
      rw [if_neg nz, c_tokenOf X im lw tl lv hX d ht (show p < n by omega) e0, bI_some, sg71_96, if_pos (inb_nI (by omega) (by omega)), if_pos (inb_nI (by omega) (by omega)), nI_clamp (by omega), nI_add]
      obtain ⟨iv', a1, a2, a3, a4, a5, a6⟩ := ih (enT b n p) (i + 1) (upd2 (upd2 iv 15 i (nI (tkP b n p))) 16 i (nI p)) (some (.inl (nI (kd (b p))))) (some (.inl (nI (enT b n p)))) (by omega) (txtC_fr ht (by rw [upd2_off _ _ _ _ (by decide), upd2_off _ _ _ _ (by decide)]) (by rw [upd2_off _ _ _ _ (by decide), upd2_off _ _ _ _ (by decide)])) hle (by omega) (by
        show _ = (if plF b n i < n then sk b n (enT b n (plF b n i)) else n)
        rw [hpl, if_pos (by omega)]) (fun j hj => by
        by_cases q : j = i
        · subst q
          rw [hpl, upd2_self, upd2_off _ _ _ _ (by decide), upd2_self]
          exact ⟨by omega, rfl, rfl⟩
        · obtain ⟨s1, s2, s3⟩ := hst j (by omega)
          rw [upd2_off _ _ _ _ (by decide), upd2_ne _ _ _ _ (by omega), upd2_ne _ _ _ _ (by omega), upd2_off _ _ _ _ (by decide)]
          exact ⟨s1, s2, s3⟩)
      exact ⟨iv', a1, a2, a3, a4, ((fr_upd _ _ _ (by simp)).tr (fr_upd _ _ _ (by simp))).tr a5, fun k h5 h6 => by rw [a6 k h5 h6, upd2_off _ _ _ _ (by decide), upd2_off _ _ _ _ (by decide)]⟩
theorem c_find (hX : XOK X) (d : Nat) {iv : Nat → Nat → Int32} (h : txtC b n iv) : fndR im lw tl lv b n iv (call X xT (d + 7) 71 [.inr (.inr (some 11))] (SS im lw tl, iv, lv)) := by
  rw [tr71, tr60, bI_some, sg71_7, h.1]
  exact c_find_loop X im lw tl lv hX d (n - 0) 0 0 iv none none (Nat.le_refl _) h (Nat.zero_le _) (Nat.le_refl _) rfl (fun j hj => by omega)
end fnd
