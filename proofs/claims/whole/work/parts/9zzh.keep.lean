/-! orders: the reference keeps and gives back -/
theorem m_cp77 (X : XE) (cl : XCl) (im lw : List (Option Nat)) (tl : List XC) (lv : Nat → Nat → Int64) (v1 : Int32) : ∀ (m i : Nat) (iv : Nat → Nat → Int32), i + m = 848 → ∃ g, run X cl false 1 xc308 77 [some (.inr (.inr (some 46))), some (.inl v1), some (.inl (nI i)), none] [] (SS im lw tl, iv, lv) = run X cl false 1 xc308 77 [some (.inr (.inr (some 46))), some (.inl v1), some (.inl (nI 848)), none] [] (SS im lw tl, upr iv 53 g, lv) ∧ (∀ x, i ≤ x → x < 848 → g x = iv 51 x) ∧ ∀ x, (x < i ∨ 848 ≤ x) → g x = iv 53 x := by
  intro m
  induction m with
  | zero =>
    intro i iv hi
    have : i = 848 := by omega
    subst this
    exact ⟨iv 53, by rw [upr_id], fun x h1 h2 => by omega, fun x _ => rfl⟩
  | succ m ih =>
    intro i iv hi
    rw [sg308_77, if_neg (nI_ge (show i < 848 by omega) (by omega)), if_pos (inb_nI (by omega) (by omega)), if_pos (inb_nI (by omega) (by omega)), nI_clamp (by omega), nI_add]
    obtain ⟨g, g1, g2, g3⟩ := ih (i + 1) (upd2 iv 53 i (iv 51 i)) (by omega)
    have e : upr (upd2 iv 53 i (iv 51 i)) 53 g = upr iv 53 g := by
      generalize iv 51 i = y
      rw [show iv = upr iv 53 (iv 53) from (upr_id iv 53).symm, upd2_upr, upr_upr, upr_upr]
    refine ⟨g, by rw [g1, e], fun x h1 h2 => ?_, fun x hx => ?_⟩
    · by_cases c : x = i
      · subst c; rw [g3 x (by omega), upd2_self]
      · rw [g2 x (by omega) h2, upd2_off _ _ _ _ (by decide)]
    · rw [g3 x (by omega), upd2_ne _ _ _ _ (by omega)]
theorem m_cp104 (X : XE) (cl : XCl) (im lw : List (Option Nat)) (tl : List XC) (lv : Nat → Nat → Int64) (v1 : Int32) : ∀ (m i : Nat) (iv : Nat → Nat → Int32), i + m = 16 → ∃ g, run X cl false 1 xc308 104 [some (.inr (.inr (some 46))), some (.inl v1), some (.inl (nI i)), none] [] (SS im lw tl, iv, lv) = run X cl false 1 xc308 104 [some (.inr (.inr (some 46))), some (.inl v1), some (.inl (nI 16)), none] [] (SS im lw tl, upr iv 54 g, lv) ∧ (∀ x, i ≤ x → x < 16 → g x = iv 52 x) ∧ ∀ x, (x < i ∨ 16 ≤ x) → g x = iv 54 x := by
  intro m
  induction m with
  | zero =>
    intro i iv hi
    have : i = 16 := by omega
    subst this
    exact ⟨iv 54, by rw [upr_id], fun x h1 h2 => by omega, fun x _ => rfl⟩
  | succ m ih =>
    intro i iv hi
    rw [sg308_104, if_neg (nI_ge (show i < 16 by omega) (by omega)), if_pos (inb_nI (by omega) (by omega)), if_pos (inb_nI (by omega) (by omega)), nI_clamp (by omega), nI_add]
    obtain ⟨g, g1, g2, g3⟩ := ih (i + 1) (upd2 iv 54 i (iv 52 i)) (by omega)
    have e : upr (upd2 iv 54 i (iv 52 i)) 54 g = upr iv 54 g := by
      generalize iv 52 i = y
      rw [show iv = upr iv 54 (iv 54) from (upr_id iv 54).symm, upd2_upr, upr_upr, upr_upr]
    refine ⟨g, by rw [g1, e], fun x h1 h2 => ?_, fun x hx => ?_⟩
    · by_cases c : x = i
      · subst c; rw [g3 x (by omega), upd2_self]
      · rw [g2 x (by omega) h2, upd2_off _ _ _ _ (by decide)]
    · rw [g3 x (by omega), upd2_ne _ _ _ _ (by omega)]
theorem m_cp8 (X : XE) (cl : XCl) (im lw : List (Option Nat)) (tl : List XC) (lv : Nat → Nat → Int64) (v1 : Int32) : ∀ (m i : Nat) (iv : Nat → Nat → Int32), i + m = 848 → ∃ g, run X cl false 0 xc314 8 [some (.inr (.inr (some 46))), some (.inl v1), some (.inl (nI i))] [] (SS im lw tl, iv, lv) = run X cl false 0 xc314 8 [some (.inr (.inr (some 46))), some (.inl v1), some (.inl (nI 848))] [] (SS im lw tl, upr iv 51 g, lv) ∧ (∀ x, i ≤ x → x < 848 → g x = iv 53 x) ∧ ∀ x, (x < i ∨ 848 ≤ x) → g x = iv 51 x := by
  intro m
  induction m with
  | zero =>
    intro i iv hi
    have : i = 848 := by omega
    subst this
    exact ⟨iv 51, by rw [upr_id], fun x h1 h2 => by omega, fun x _ => rfl⟩
  | succ m ih =>
    intro i iv hi
    rw [sg314_8, if_neg (nI_ge (show i < 848 by omega) (by omega)), if_pos (inb_nI (by omega) (by omega)), if_pos (inb_nI (by omega) (by omega)), nI_clamp (by omega), nI_add]
    obtain ⟨g, g1, g2, g3⟩ := ih (i + 1) (upd2 iv 51 i (iv 53 i)) (by omega)
    have e : upr (upd2 iv 51 i (iv 53 i)) 51 g = upr iv 51 g := by
      generalize iv 53 i = y
      rw [show iv = upr iv 51 (iv 51) from (upr_id iv 51).symm, upd2_upr, upr_upr, upr_upr]
    refine ⟨g, by rw [g1, e], fun x h1 h2 => ?_, fun x hx => ?_⟩
    · by_cases c : x = i
      · subst c; rw [g3 x (by omega), upd2_self]
      · rw [g2 x (by omega) h2, upd2_off _ _ _ _ (by decide)]
    · rw [g3 x (by omega), upd2_ne _ _ _ _ (by omega)]
theorem m_cp35 (X : XE) (cl : XCl) (im lw : List (Option Nat)) (tl : List XC) (lv : Nat → Nat → Int64) (v1 : Int32) : ∀ (m i : Nat) (iv : Nat → Nat → Int32), i + m = 16 → ∃ g, run X cl false 0 xc314 35 [some (.inr (.inr (some 46))), some (.inl v1), some (.inl (nI i))] [] (SS im lw tl, iv, lv) = run X cl false 0 xc314 35 [some (.inr (.inr (some 46))), some (.inl v1), some (.inl (nI 16))] [] (SS im lw tl, upr iv 52 g, lv) ∧ (∀ x, i ≤ x → x < 16 → g x = iv 54 x) ∧ ∀ x, (x < i ∨ 16 ≤ x) → g x = iv 52 x := by
  intro m
  induction m with
  | zero =>
    intro i iv hi
    have : i = 16 := by omega
    subst this
    exact ⟨iv 52, by rw [upr_id], fun x h1 h2 => by omega, fun x _ => rfl⟩
  | succ m ih =>
    intro i iv hi
    rw [sg314_35, if_neg (nI_ge (show i < 16 by omega) (by omega)), if_pos (inb_nI (by omega) (by omega)), if_pos (inb_nI (by omega) (by omega)), nI_clamp (by omega), nI_add]
    obtain ⟨g, g1, g2, g3⟩ := ih (i + 1) (upd2 iv 52 i (iv 54 i)) (by omega)
    have e : upr (upd2 iv 52 i (iv 54 i)) 52 g = upr iv 52 g := by
      generalize iv 54 i = y
      rw [show iv = upr iv 52 (iv 52) from (upr_id iv 52).symm, upd2_upr, upr_upr, upr_upr]
    refine ⟨g, by rw [g1, e], fun x h1 h2 => ?_, fun x hx => ?_⟩
    · by_cases c : x = i
      · subst c; rw [g3 x (by omega), upd2_self]
      · rw [g2 x (by omega) h2, upd2_off _ _ _ _ (by decide)]
    · rw [g3 x (by omega), upd2_ne _ _ _ _ (by omega)]
