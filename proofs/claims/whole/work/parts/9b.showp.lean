/-! show: what both search -/
/-- two scenes alike in all that a tamer's words of a province read -/
def eqW (t q : Nat) (f g : Sc) : Prop := f (5 + q) = g (5 + q) ∧ f (11 + q) = g (11 + q) ∧ f (35 + (t * 6 + q)) = g (35 + (t * 6 + q)) ∧ f (23 + t) = g (23 + t) ∧ f (27 + t) = g (27 + t) ∧ f (17 + q) = g (17 + q) ∧ f 2 = g 2 ∧ f 4 = g 4
theorem wd_w {t q : Nat} {f g : Sc} (h : eqW t q f g) : wd f (some t) (some q) = wd g (some t) (some q) := by
  obtain ⟨h1, h2, h3, h4, h5, h6, h7, h8⟩ := h
  funext k
  match k with
  | 0 => rfl
  | 1 => rfl
  | 2 => exact h1
  | 3 => exact h2
  | 4 => exact h3
  | 5 => exact h4
  | 6 => exact h5
  | 7 => exact h6
  | 8 => exact h7
  | 9 => exact h8
  | k + 10 => rfl
theorem barV_w {t q : Nat} {f g : Sc} (h : eqW t q f g) (cl : Nat → CL) (n : Nat) : barV f cl n t q = barV g cl n t q := by unfold barV; rw [wd_w h]
theorem reaV_w {t q : Nat} {f g : Sc} (h : eqW t q f g) (cl : Nat → CL) (n : Nat) : reaV f cl n t q = reaV g cl n t q := by
  unfold reaV angV
  rw [wd_w h, h.1, h.2.1, h.2.2.1, h.2.2.2.1]
/-- a turn, asked of the paper as it stands -/
def turP (f : Sc) (l : Lw) (t q : Nat) : Int32 := if barV f l.1 l.2 t q = true then nI 0 else reaV f l.1 l.2 t q
theorem turP_v {f f0 : Sc} {l : Lw} {t q v : Nat} (h : eqW t q f (pu f0 (11 + q) (nI v))) : turP f l t q = turV f0 l t q v := by
  unfold turP turV
  rw [barV_w h, reaV_w h]
theorem turP_3 (f : Sc) (l : Lw) (t q : Nat) : turP f l t q = nI 0 ∨ turP f l t q = nI 1 ∨ turP f l t q = nI 2 := by
  unfold turP reaV
  split
  · exact Or.inl rfl
  · split
    · split
      · exact Or.inl rfl
      · exact Or.inr (Or.inl rfl)
    · exact Or.inr (Or.inr rfl)
theorem stirF_j (b u : Int32) {j : Nat} (hj : j < 11 ∨ 17 ≤ j) : ∀ (m q : Nat) (f : Sc), q + m ≤ 6 → stirF b u m q f j = f j := by
  intro m
  induction m with
  | zero => intro q f _; rfl
  | succ m ih =>
    intro q f hq
    simp only [stirF]
    rw [ih (q + 1) _ (by omega)]
    split
    · rw [pu_n _ _ _ (by omega)]
    · rfl
theorem reactF_j {f : Sc} {n t p j : Nat} {did : Int32} (hn : n ≤ 6) (hd : did = nI 1 ∨ did = nI 2) (hj : j < 11 ∨ 17 ≤ j) (hp : p < 6) (h5 : j ≠ 5 + p) : reactF f n did t p j = f j := by
  unfold reactF
  rcases hd with e | e
  · rw [e, if_neg (by decide), if_pos rfl, stirF_j _ _ hj _ _ _ (by omega), pu_n _ _ _ (by omega)]
  · rw [e, if_pos rfl, stirF_j _ _ hj _ _ _ (by omega), pu_n _ _ _ h5]
/-- the paper behind the first d acts of a row -/
def pap (f : Sc) (n : Nat) (l : Lw) (t : Nat) (r : Sc) : Nat → Sc
  | 0 => f
  | d + 1 => reactF (pap f n l t r d) n (turP (pap f n l t r d) l t (r d).toNatClampNeg) t (r d).toNatClampNeg
theorem pap_eq {f : Sc} {n : Nat} {l : Lw} {t : Nat} {r r' : Sc} : ∀ d, (∀ i, i < d → r i = r' i) → pap f n l t r d = pap f n l t r' d := by
  intro d
  induction d with
  | zero => intro _; rfl
  | succ d ih => intro h; simp only [pap]; rw [ih (fun i hi => h i (by omega)), h d (by omega)]
/-- of a province that has not acted only the temper has changed -/
theorem pap_j {f : Sc} {n : Nat} {l : Lw} {t : Nat} {r : Sc} (hn : n ≤ 6) {j : Nat} (hj : j < 11 ∨ 17 ≤ j) : ∀ d, (∀ i, i < d → ∃ a, a < 6 ∧ r i = nI a ∧ j ≠ 5 + a ∧ turP (pap f n l t r i) l t a ≠ nI 0) → pap f n l t r d j = f j := by
  intro d
  induction d with
  | zero => intro _; rfl
  | succ d ih =>
    intro h
    obtain ⟨a, h1, h2, h3, h4⟩ := h d (by omega)
    simp only [pap]
    rw [h2, nI_clamp (by omega), reactF_j hn (by rcases turP_3 (pap f n l t r d) l t a with e | e | e <;> first | exact absurd e h4 | exact Or.inl e | exact Or.inr e) hj h1 h3]
    exact ih (fun i hi => h i (by omega))
def showS (f : Sc) (n : Nat) (l : Lw) (t : Nat) (told : Int32) (p j : Nat) (r : Sc) : Option Nat := if bitV told j = true ∧ tak r j p = false ∧ turP (pap f n l t r p) l t j ≠ nI 0 then some (if turP (pap f n l t r p) l t j = nI 1 then 1 else 0) else none
theorem show_le {f : Sc} {n : Nat} {l : Lw} {t : Nat} {told : Int32} : ∀ p j r x, showS f n l t told p j r = some x → x ≤ 1 := by
  intro p j r x h
  unfold showS at h
  split at h
  · injection h with h; rw [← h]; split <;> omega
  · cases h
