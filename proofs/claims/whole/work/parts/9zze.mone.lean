/-! orders: one order of the reference -/
def oKnd (g : GC) (x y : Int32) : St → Int32 × St := if g.1 = 3 then a_pass else if g.1 = 1 then a_feed x y else if g.1 = 2 then a_move x y else a_crack x y
theorem m_313 (X : XE) (d : Nat) (im lw : List (Option Nat)) (tl : List XC) (iv : Nat → Nat → Int32) (lv : Nat → Nat → Int64) {A : St} (h : RelM A iv lv) (ho : OKA A) {g : GC} (hg : g.1 < 4) (x y : Int32) : MF im lw tl iv lv (call X xT (d + 13) 313 [.inr (.inr (some 46)), .inl (nI g.1), .inl x, .inl y] (SS im lw tl, iv, lv)) (oKnd g x y A) := by
  unfold oKnd
  rw [tr313, nI_toInt (by omega)]
  rcases (show g.1 = 0 ∨ g.1 = 1 ∨ g.1 = 2 ∨ g.1 = 3 by omega) with e | e | e | e
  · rw [e, if_pos (by decide), if_neg (by decide), if_neg (by decide), if_neg (by decide)]
    obtain ⟨iv1, lv1, a1, a2, a3, a4⟩ := M_crackF x y X d im lw tl iv lv A h ho
    rw [a1, bI_some, sg313_34]
    exact ⟨iv1, lv1, rfl, a2, a3, a4⟩
  · rw [e, if_neg (by decide), if_pos (by decide), if_neg (by decide), if_pos rfl]
    obtain ⟨iv1, lv1, a1, a2, a3, a4⟩ := M_feedF x y X d im lw tl iv lv A h ho
    rw [a1, bI_some, sg313_41]
    exact ⟨iv1, lv1, rfl, a2, a3, a4⟩
  · rw [e, if_neg (by decide), if_neg (by decide), if_pos (by decide), if_neg (by decide), if_neg (by decide), if_pos rfl]
    obtain ⟨iv1, lv1, a1, a2, a3, a4⟩ := M_moveF x y X d im lw tl iv lv A h ho
    rw [a1, bI_some, sg313_48]
    exact ⟨iv1, lv1, rfl, a2, a3, a4⟩
  · rw [e, if_neg (by decide), if_neg (by decide), if_neg (by decide), if_pos rfl]
    obtain ⟨iv1, lv1, a1, a2, a3, a4⟩ := M_passF X d im lw tl iv lv A h ho
    rw [a1, bI_some, sg313_53]
    exact ⟨iv1, lv1, rfl, a2, a3, a4⟩
def frK (iv iv' : Nat → Nat → Int32) : Prop := ∀ a k, a ∉ [48, 52, 67, 68] → (a = 51 → 848 ≤ k) → ¬ (a = 46 ∧ (k = 8 ∨ k = 34 ∨ k = 38 ∨ k = 52 ∨ k = 53 ∨ k = 55)) → iv' a k = iv a k
def agK (lv lv' : Nat → Nat → Int64) : Prop := ∀ a k, a ≠ 64 → a ≠ 65 → a ≠ 66 → ¬ (a = 46 ∧ (k = 39 ∨ k = 40)) → lv' a k = lv a k
theorem frK.rf {iv : Nat → Nat → Int32} : frK iv iv := fun _ _ _ _ _ => rfl
theorem agK.rf {lv : Nat → Nat → Int64} : agK lv lv := fun _ _ _ _ _ _ => rfl
theorem frK.tr {a b c : Nat → Nat → Int32} (h : frK a b) (h2 : frK b c) : frK a c := fun x k h3 h5 h4 => (h2 x k h3 h5 h4).trans (h x k h3 h5 h4)
theorem agK.tr {a b c : Nat → Nat → Int64} (h : agK a b) (h2 : agK b c) : agK a c := fun x k h3 h4 h5 h6 => (h2 x k h3 h4 h5 h6).trans (h x k h3 h4 h5 h6)
theorem frK_S {a b : Nat → Nat → Int32} (h : frS a b) : frK a b := fun x k _ _ h4 => h x k (by omega)
theorem agK_S {a b : Nat → Nat → Int64} (h : agS a b) : agK a b := fun x k _ _ h5 h6 => h x k h5 (by omega)
theorem frK_A {a b : Nat → Nat → Int32} (h : frMA a b) : frK a b := fun x k h3 h5 h4 => h x k h3 h5 (by omega)
theorem agK_N {a b : Nat → Nat → Int64} (h : agN a b) : agK a b := fun x k h3 _ h5 h6 => h x k h5 h3 h6
theorem relM_S {A : St} {iv iv' : Nat → Nat → Int32} {lv lv' : Nat → Nat → Int64} (h : RelM A iv lv) (f : ∀ a k, ¬ (a = 46 ∧ (k = 34 ∨ k = 38 ∨ k = 52 ∨ k = 53 ∨ k = 55)) → iv' a k = iv a k) (l : agK lv lv') : RelM A iv' lv' := by
  have c : ∀ a, a ≠ 46 → iv' a = iv a := fun a ha => by funext k; exact f a k (by omega)
  have f : ∀ k, k ∈ [1, 8, 11, 13, 18, 20, 54, 58, 59] → iv' 46 k = iv 46 k := fun k hk => f 46 k (by simp at hk; omega)
  obtain ⟨h1, h2, h3, h4, h5, h6, h7, h8⟩ := h
  refine ⟨?_, ?_, ?_, ?_, ?_, ?_, ?_, ?_⟩
  · rw [c 48 (by decide)]; exact h1
  · unfold imgsM; rw [c 49 (by decide), c 50 (by decide)]; exact h2
  · rw [f 13 (by simp), c 55 (by decide)]; exact h3
  · unfold undoM; rw [f 8 (by simp), c 51 (by decide), c 52 (by decide)]; exact h4
  · unfold drawnM; rw [f 58 (by simp), f 59 (by simp), c 78 (by decide)]; exact h5
  · unfold miscM; rw [f 18 (by simp), f 54 (by simp), f 11 (by simp), f 1 (by simp), c 47 (by decide)]; exact h6
  · rw [f 20 (by simp)]; exact h7
  · obtain ⟨k1, k2, k3, k4⟩ := h8
    have g : ∀ a j, a = 61 ∨ a = 62 ∨ a = 63 ∨ a = 76 → lv' a j = lv a j := fun a j ha => l a j (by omega) (by omega) (by omega) (by omega)
    exact ⟨fun j hj => by rw [g 61 j (by omega)]; exact k1 j hj, fun j hj => by rw [g 62 j (by omega)]; exact k2 j hj, fun j hj => by rw [g 63 j (by omega)]; exact k3 j hj, fun j hj => by rw [g 76 j (by omega)]; exact k4 j hj⟩
theorem prgM.fr {iv iv' : Nat → Nat → Int32} {gs : List GC} (h : prgM iv gs) (f : frK iv iv') : prgM iv' gs := by
  have c : ∀ a, a = 57 ∨ a = 58 ∨ a = 77 → iv' a = iv a := fun a ha => by funext k; exact f a k (by simp; omega) (by omega) (by omega)
  obtain ⟨h1, h2, h3, h4, h5, h6, h7⟩ := h
  exact ⟨fun k x hx => by rw [c 57 (by omega), c 58 (by omega)]; exact h1 k x hx, h2, h3, h4, h5, fun j g hj k hk => by rw [c 77 (by omega)]; exact h6 j g hj k hk, by rw [f 46 21 (by decide) (by omega) (by omega)]; exact h7⟩
def invM (gs : List GC) (s : St × Nat × Int32) (iv : Nat → Nat → Int32) (lv : Nat → Nat → Int64) : Prop := RelM s.1 iv lv ∧ OKA s.1 ∧ prgM iv gs ∧ iv 46 52 = nI s.2.1 ∧ iv 46 53 = s.2.2
def onM (im lw : List (Option Nat)) (tl : List XC) (gs : List GC) (A : St) (iv : Nat → Nat → Int32) (lv : Nat → Nat → Int64) (T : Option XR) (r : Option (St × Nat × Int32)) : Prop := ∃ iv' lv', frK iv iv' ∧ agK lv lv' ∧ match r with
  | none => T = some (some (.inl (-3)), (SS im lw tl, iv', lv')) ∧ RelM A iv' lv'
  | some s => T = some (some (.inl (nI 0)), (SS im lw tl, iv', lv')) ∧ invM gs s iv' lv'
/-- 312, where there is no sum, or all is broken -/
theorem m_sumN (X : XE) (d : Nat) (im lw : List (Option Nat)) (tl : List XC) (iv : Nat → Nat → Int32) (lv : Nat → Nat → Int64) {p : Nat} (hp : p < 95) (h : iv 46 55 = nI 1 ∨ (iv 46 55 = nI 0 ∧ iv 77 p = iv 77 (p + 1))) : call X xT (d + 1) 312 [.inr (.inr (some 46)), .inl (nI p)] (SS im lw tl, iv, lv) = some (some (.inl (-1)), (SS im lw tl, iv, lv)) := by
  rw [tr312]
  rcases h with e | ⟨e, e2⟩
  · rw [e, if_neg n1z]
  · rw [e, if_pos nI0_eq0, nI_add, if_pos (inb_nI (by omega) (by omega)), if_pos (inb_nI (by omega) (by omega)), nI_clamp (by omega), nI_clamp (by omega), if_pos e2]
