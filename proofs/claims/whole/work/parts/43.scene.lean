/-! scenes of the class -/
/-- a scene's two cells -/
def scell (S : List XC) (a c : Nat) : Prop := S[a]? = some (7, 1, [some c]) ∧ S[c]? = some (50, 59, []) ∧ c < 1000000
theorem c_get0 {X : XE} {d : Nat} {S : List XC} {iv : Nat → Nat → Int32} {lv : Nat → Nat → Int64} {a c : Nat} (h : scell S a c) {x y : Nat} (hj : x + y < 59) : call X xT (d + 1) 18 [.inr (.inr (some a)), .inl (nI x), .inl (nI y)] (S, iv, lv) = some (some (.inl (iv c (x + y))), (S, iv, lv)) := by
  obtain ⟨h1, h2, h3⟩ := h
  rw [tr18, nI_add, if_neg (nI_pos (by omega)), if_neg (nI_ge hj (by omega)), obj_ok (ci := 7) (fi := 0) h1 rfl (show (0 : Nat) < 1 by decide)]
  show ild X S iv (some c) 50 (nI (x + y)) _ = _
  rw [ild_ok X iv h3 h2 rfl (inb_nI hj (by omega)), nI_clamp (by omega)]
theorem c_mem0 {X : XE} {d : Nat} {S : List XC} {iv : Nat → Nat → Int32} {lv : Nat → Nat → Int64} {a c : Nat} (h : scell S a c) {t p : Nat} (ht : t < 4) (hp : p < 6) : call X xT (d + 2) 29 [.inr (.inr (some a)), .inl (nI t), .inl (nI p)] (S, iv, lv) = some (some (.inl (iv c (35 + (t * 6 + p)))), (S, iv, lv)) := by
  rw [tr29, objR_ok h.1 rfl, pk_mul, nI_add, c_get0 h (by omega), bI_some, sg29_12]
theorem c_day0 {X : XE} {d : Nat} {S : List XC} {iv : Nat → Nat → Int32} {lv : Nat → Nat → Int64} {a c : Nat} (h : scell S a c) : call X xT (d + 1) 30 [.inr (.inr (some a))] (S, iv, lv) = some (some (.inl (iv c 2)), (S, iv, lv)) := by
  obtain ⟨h1, h2, h3⟩ := h
  rw [tr30, obj_ok (ci := 7) (fi := 0) h1 rfl (show (0 : Nat) < 1 by decide)]
  show ild X S iv (some c) 50 (nI 2) _ = _
  rw [ild_ok X iv h3 h2 rfl (inb_nI (show 2 < 59 by decide) (by omega)), nI_clamp (by omega)]
theorem nI_m1 {n : Nat} (h : n < 2 ^ 31) : ¬ nI n = -1 := by
  intro e
  rw [fb_eq, nI_toInt h, show (-1 : Int32).toInt = -1 by decide] at e
  omega
/-- what a tamer or a province is called in the words; none: -1 -/
def wI (o : Option Nat) : Int32 := match o with
  | none => -1
  | some n => nI n
/-- the ten words of a law, out of a scene's row -/
def wd (f : Nat → Int32) (t p : Option Nat) : Nat → Int32
  | 0 => wI t
  | 1 => wI p
  | 2 => match p with
    | none => -1
    | some p => f (5 + p)
  | 3 => match p with
    | none => -1
    | some p => f (11 + p)
  | 4 => match t, p with
    | some t, some p => f (35 + (t * 6 + p))
    | _, _ => -1
  | 5 => match t with
    | none => -1
    | some t => f (23 + t)
  | 6 => match t with
    | none => -1
    | some t => f (27 + t)
  | 7 => match p with
    | none => -1
    | some p => f (17 + p)
  | 8 => f 2
  | 9 => f 4
  | _ => 0
/-- the row of the words behind setWords -/
def wrow (w : Nat → Int32) (f : Nat → Int32) : Nat → Int32 := pu (pu (pu (pu (pu (pu (pu (pu (pu (pu f 0 (w 0)) 1 (w 1)) 2 (w 2)) 3 (w 3)) 4 (w 4)) 5 (w 5)) 6 (w 6)) 7 (w 7)) 8 (w 8)) 9 (w 9)
theorem wrow_in (w f : Nat → Int32) {k : Nat} (hk : k < 10) : wrow w f k = w k := by
  have h : k = 0 ∨ k = 1 ∨ k = 2 ∨ k = 3 ∨ k = 4 ∨ k = 5 ∨ k = 6 ∨ k = 7 ∨ k = 8 ∨ k = 9 := by omega
  rcases h with rfl | rfl | rfl | rfl | rfl | rfl | rfl | rfl | rfl | rfl <;> simp [wrow, pu]
theorem ib10 : inb (nI 2) 10 = true ∧ inb (nI 3) 10 = true ∧ inb (nI 4) 10 = true ∧ inb (nI 5) 10 = true ∧ inb (nI 6) 10 = true ∧ inb (nI 7) 10 = true ∧ inb (nI 8) 10 = true ∧ inb (nI 9) 10 = true := by decide
theorem ic10 : (nI 2).toNatClampNeg = 2 ∧ (nI 3).toNatClampNeg = 3 ∧ (nI 4).toNatClampNeg = 4 ∧ (nI 5).toNatClampNeg = 5 ∧ (nI 6).toNatClampNeg = 6 ∧ (nI 7).toNatClampNeg = 7 ∧ (nI 8).toNatClampNeg = 8 ∧ (nI 9).toNatClampNeg = 9 := by decide
theorem c_setWords (X : XE) (d : Nat) (im lw : List (Option Nat)) (tl : List XC) (iv : Nat → Nat → Int32) (lv : Nat → Nat → Int64) {a c : Nat} (h : scell (SS im lw tl) a c) (hc : c ≠ 20) (t p : Option Nat) (ht : ∀ n, t = some n → n < 4) (hp : ∀ n, p = some n → n < 6) : call X xT (d + 3) 28 [.inr (.inr (some 17)), .inr (.inr (some a)), .inl (wI t), .inl (wI p)] (SS im lw tl, iv, lv) = some (none, (SS im lw tl, upr iv 20 (wrow (wd (iv c) t p) (iv 20)), lv)) := by
  have hR : ∀ (k : Nat → Option XR), objR (SS im lw tl) (some a) 7 k = k a := fun k => objR_ok h.1 rfl k
  have hD : ∀ iv : Nat → Nat → Int32, call X xT (d + 2) 30 [.inr (.inr (some a))] (SS im lw tl, iv, lv) = some (some (.inl (iv c 2)), (SS im lw tl, iv, lv)) := fun iv => c_day0 (d := d + 1) h
  have hM : ∀ iv : Nat → Nat → Int32, call X xT (d + 2) 18 [.inr (.inr (some a)), .inl (nI 2), .inl (nI 2)] (SS im lw tl, iv, lv) = some (some (.inl (iv c 4)), (SS im lw tl, iv, lv)) := fun iv => c_get0 (d := d + 1) (x := 2) (y := 2) h (by omega)
  have hG : ∀ (x y : Nat) (iv : Nat → Nat → Int32), x + y < 59 → call X xT (d + 2) 18 [.inr (.inr (some a)), .inl (nI x), .inl (nI y)] (SS im lw tl, iv, lv) = some (some (.inl (iv c (x + y))), (SS im lw tl, iv, lv)) := fun x y iv hj => c_get0 (d := d + 1) h hj
  obtain ⟨i2, i3, i4, i5, i6, i7, i8, i9⟩ := ib10
  obtain ⟨k2, k3, k4, k5, k6, k7, k8, k9⟩ := ic10
  have z0 : ((-1 : Int32) = -1) = True := eq_self _
  have z1 : (nI 1 = 0) = False := eq_false nI1_ne0
  have z2 : (nI 0 = 0) = True := eq_true nI0_eq0
  rw [tr28]
  cases t with
  | none =>
    cases p with
    | none =>
      simp only [wI, z0, z1, z2, if_true, if_false, sg28_51, sg28_73, sg28_90, sg28_116, sg28_139, sg28_162, sg28_173, sg28_186, i2, i3, i4, i5, i6, i7, i8, i9, k2, k3, k4, k5, k6, k7, k8, k9, hR, hD, hM, bI_some, upd2_off _ _ _ _ hc]
      simp only [upd2_as, upr_self, upr_upr, wrow, wd, wI]
    | some p =>
      have hp := hp p rfl
      have n1 : (nI p = -1) = False := eq_false (nI_m1 (by omega))
      have g5p := fun iv => hG 5 p iv (by omega)
      have g11p := fun iv => hG 11 p iv (by omega)
      have g17p := fun iv => hG 17 p iv (by omega)
      simp only [wI, z0, z1, z2, n1, if_true, if_false, sg28_51, sg28_73, sg28_90, sg28_116, sg28_139, sg28_162, sg28_173, sg28_186, i2, i3, i4, i5, i6, i7, i8, i9, k2, k3, k4, k5, k6, k7, k8, k9, hR, hD, hM, g5p, g11p, g17p, bI_some, upd2_off _ _ _ _ hc]
      simp only [upd2_as, upr_self, upr_upr, wrow, wd, wI]
  | some t =>
    have ht := ht t rfl
    have n0 : (nI t = -1) = False := eq_false (nI_m1 (by omega))
    cases p with
    | none =>
      have g23t := fun iv => hG 23 t iv (by omega)
      have g27t := fun iv => hG 27 t iv (by omega)
      simp only [wI, z0, z1, z2, n0, if_true, if_false, sg28_51, sg28_73, sg28_90, sg28_116, sg28_139, sg28_162, sg28_173, sg28_186, i2, i3, i4, i5, i6, i7, i8, i9, k2, k3, k4, k5, k6, k7, k8, k9, hR, hD, hM, g23t, g27t, bI_some, upd2_off _ _ _ _ hc]
      simp only [upd2_as, upr_self, upr_upr, wrow, wd, wI]
    | some p =>
      have hp := hp p rfl
      have n1 : (nI p = -1) = False := eq_false (nI_m1 (by omega))
      have hX : ∀ iv : Nat → Nat → Int32, call X xT (d + 2) 29 [.inr (.inr (some a)), .inl (nI t), .inl (nI p)] (SS im lw tl, iv, lv) = some (some (.inl (iv c (35 + (t * 6 + p)))), (SS im lw tl, iv, lv)) := fun iv => c_mem0 h ht hp
      have g5p := fun iv => hG 5 p iv (by omega)
      have g11p := fun iv => hG 11 p iv (by omega)
      have g17p := fun iv => hG 17 p iv (by omega)
      have g23t := fun iv => hG 23 t iv (by omega)
      have g27t := fun iv => hG 27 t iv (by omega)
      simp only [wI, z0, z1, z2, n0, n1, if_true, if_false, sg28_51, sg28_73, sg28_90, sg28_116, sg28_139, sg28_162, sg28_173, sg28_186, i2, i3, i4, i5, i6, i7, i8, i9, k2, k3, k4, k5, k6, k7, k8, k9, hR, hD, hM, hX, g5p, g11p, g17p, g23t, g27t, bI_some, upd2_off _ _ _ _ hc]
      simp only [upd2_as, upr_self, upr_upr, wrow, wd, wI]
