/-! show: the class; stages kept and brought back, a turn read, the bits that are left -/
theorem c_stSave (X : XE) (d : Nat) (im lw : List (Option Nat)) (tl : List XC) (iv : Nat → Nat → Int32) (lv : Nat → Nat → Int64) {p : Nat} (hp : p < 6) : call X xT (d + 1) 116 [.inr (.inr (some 22)), .inr (.inr (some 24)), .inl (nI p)] (SS im lw tl, iv, lv) = some (none, (SS im lw tl, upr iv 24 (va_cpy (iv 23) (iv 24) 0 (p * 59) 59), lv)) := by
  rw [tr116c22_24, if_neg (nI_pos (by omega)), show (nI 354 : Int32) / nI 59 = nI 6 by decide, if_neg (nI_ge (by omega) (by omega)), pk_mul, xcopy_ok (S := SS im lw tl) iv lv (b := 23) (a := 24) rfl rfl (by omega) (by omega) (by omega) (by omega)]
  exact sg116_28c22_24 X _ im lw tl _ lv (nI p)
theorem c_stLoad (X : XE) (d : Nat) (im lw : List (Option Nat)) (tl : List XC) (iv : Nat → Nat → Int32) (lv : Nat → Nat → Int64) {p : Nat} (hp : p < 6) : call X xT (d + 1) 142 [.inr (.inr (some 22)), .inr (.inr (some 24)), .inl (nI p)] (SS im lw tl, iv, lv) = some (none, (SS im lw tl, upr iv 23 (va_cpy (iv 24) (iv 23) (p * 59) 0 59), lv)) := by
  rw [tr142c22_24, if_neg (nI_pos (by omega)), show (nI 354 : Int32) / nI 59 = nI 6 by decide, if_neg (nI_ge (by omega) (by omega)), pk_mul, xcopy_ok (S := SS im lw tl) iv lv (b := 24) (a := 23) rfl rfl (by omega) (by omega) (by omega) (by omega)]
  exact sg142_28c22_24 X _ im lw tl _ lv (nI p)
theorem c_turnOf (X : XE) (d : Nat) (im lw : List (Option Nat)) (tl : List XC) (iv : Nat → Nat → Int32) (lv : Nat → Nat → Int64) {j v : Nat} (hj : j < 6) (hv : v ≤ 9) (h : iv 23 (11 + j) = nI v) : call X xT (d + 2) 148 [.inr (.inr (some 21)), .inl (nI j)] (SS im lw tl, iv, lv) = some (some (.inl (iv 25 (j * 10 + v))), (SS im lw tl, iv, lv)) := by
  rw [tr148, c_get0 (sc22 im lw tl) (x := 11) (y := j) (by omega), bI_some, h, pk_mul, sg148_14, nI_add, if_neg (nI_pos (by omega)), if_neg (nI_ge (by omega) (by omega)), if_pos (inb_nI (by omega) (by omega)), nI_clamp (by omega)]
/-- how many bits of a mask of six are set -/
def pc6 (x : Nat) : Nat := (if x.testBit 0 = true then 1 else 0) + (if x.testBit 1 = true then 1 else 0) + (if x.testBit 2 = true then 1 else 0) + (if x.testBit 3 = true then 1 else 0) + (if x.testBit 4 = true then 1 else 0) + (if x.testBit 5 = true then 1 else 0)
theorem pc_clr : ∀ x, x < 64 → ∀ j, j < 6 → x.testBit j = true → nI x &&& ((nI 1 <<< (nI j &&& 31)) ^^^ (-1)) = nI (x - 2 ^ j) ∧ pc6 (x - 2 ^ j) + 1 = pc6 x ∧ x - 2 ^ j < 64 ∧ ∀ s, s < 6 → (x - 2 ^ j).testBit s = (x.testBit s && decide (s ≠ j)) := by decide +kernel
theorem pc_0 : ∀ x, x < 64 → (pc6 x = 0 ↔ nI x = 0) := by decide +kernel
theorem pc_le : ∀ x, x < 64 → pc6 x ≤ 6 := by decide +kernel
theorem okF_pap {f : Sc} {n : Nat} {l : Lw} {t : Nat} {r : Sc} (hn : n ≤ 6) (ht : t < 4) (hf : okF f) : ∀ d, (∀ i, i < d → ∃ a, a < 6 ∧ r i = nI a) → gd f (pap f n l t r d) := by
  intro d
  induction d with
  | zero => intro _; exact ⟨hf, rfl, rfl, fun _ _ => rfl⟩
  | succ d ih =>
    intro h
    obtain ⟨a, h1, h2⟩ := h d (by omega)
    have g := ih (fun i hi => h i (by omega))
    have q := gd_react g.1 (turP (pap f n l t r d) l t a) (n := n) hn ht h1
    simp only [pap]
    rw [h2, nI_clamp (by omega)]
    exact ⟨q.1, g.2.tr q.2⟩
