/-! the reference's reading: its state, its small steps -/
def toF (b : Nat → Nat) (n i : Nat) : Nat := if plF b n i < n then enT b n (plF b n i) else n
def soF (b : Nat → Nat) (n i : Nat) : Nat := if plF b n i < n then kd (b (plF b n i)) else 0
def lexM (b : Nat → Nat) (n i : Nat) (iv : Nat → Nat → Int32) (lv : Nat → Nat → Int64) : Prop := txtM b n iv ∧ iv 46 14 = nI (plF b n i) ∧ iv 46 15 = nI (toF b n i) ∧ iv 46 16 = nI (soF b n i) ∧ lv 46 17 = wor b n (plF b n i)
theorem toF_le (b : Nat → Nat) (n i : Nat) : toF b n i ≤ n := by
  unfold toF
  split
  · rename_i h; exact enT_le b h
  · exact Nat.le_refl _
theorem plF_lt {b : Nat → Nat} {n i : Nat} (h : tkF b n i ≠ 9999) : plF b n i < n := by
  unfold tkF at h
  rcases Nat.lt_or_ge (plF b n i) n with z | z
  · exact z
  · rw [if_neg (by omega)] at h; exact absurd rfl h
theorem frN_t {b : Nat → Nat} {n : Nat} {iv iv' : Nat → Nat → Int32} (h : txtM b n iv) (hf : frN iv iv') : txtM b n iv' := ⟨by rw [hf 46 13 (by omega)]; exact h.1, h.2.1, fun j hj => by rw [hf 55 j (by omega)]; exact h.2.2.1 j hj, h.2.2.2⟩
section ml
variable (X : XE) (im lw : List (Option Nat)) (tl : List XC) {b : Nat → Nat} {n : Nat}
theorem m_next (d : Nat) {iv : Nat → Nat → Int32} {lv : Nat → Nat → Int64} {i : Nat} (h : lexM b n i iv lv) (hi : tkF b n i ≠ 9999) : ∃ iv' lv', call X xT (d + 2) 238 [.inr (.inr (some 46))] (SS im lw tl, iv, lv) = some (none, (SS im lw tl, iv', lv')) ∧ lexM b n (i + 1) iv' lv' ∧ frN iv iv' ∧ frO lv lv' := by
  obtain ⟨h1, h2, h3, h4, h5⟩ := h
  have hp := plF_lt hi
  obtain ⟨iv', lv', a1, a2, a3, a4, a5, a6, a7⟩ := m_nextP X im lw tl d lv h1 h3 (toF_le b n i)
  have e : sk b n (toF b n i) = plF b n (i + 1) := by
    show _ = if plF b n i < n then sk b n (enT b n (plF b n i)) else n
    unfold toF
    rw [if_pos hp, if_pos hp]
  rw [e] at a2 a3 a4 a5
  exact ⟨iv', lv', a1, ⟨frN_t h1 a6, a2, a3, a4, a5⟩, a6, a7⟩
theorem lg0 (x y : Int64) : lg_cmp x y = 0 ↔ x = y := lg_cmp_eq x y
theorem m_isW (d : Nat) {iv : Nat → Nat → Int32} {lv : Nat → Nat → Int64} {i : Nat} (h : lexM b n i iv lv) {t : Nat} (ht : knT t) : call X xT (d + 1) 242 [.inr (.inr (some 46)), .inr (.inl (lN (hT t)))] (SS im lw tl, iv, lv) = some (some (.inl (b2i (decide (tkF b n i = t)))), (SS im lw tl, iv, lv)) := by
  obtain ⟨h1, h2, h3, h4, h5⟩ := h
  have hk := kd_le (b (plF b n i))
  rw [tr242, h4, h5]
  unfold soF wor tkF
  by_cases hp : plF b n i < n
  · rw [if_pos hp, if_pos hp, if_pos hp]
    have h0 := plF_kd b n i hp
    unfold tkP
    by_cases e3 : kd (b (plF b n i)) = 3
    · have := h1.2.2.2 (plF b n i)
      rw [e3, if_neg (by decide), if_pos rfl, decide_eq_false (by unfold knT at ht; omega)]; rfl
    · by_cases e2 : kd (b (plF b n i)) = 2
      · rw [e2, if_neg (by decide), if_neg (by decide), if_pos rfl, decide_eq_false (by unfold knT at ht; omega)]; rfl
      · have e1 : kd (b (plF b n i)) = 1 := by omega
        rw [e1, if_pos rfl, if_neg (show ¬ (1 : Nat) = 3 by decide), if_neg (show ¬ (1 : Nat) = 2 by decide), if_neg (show ¬ (1 : Nat) = 3 by decide), if_neg (show ¬ (1 : Nat) = 2 by decide)]
        have := enT_gt b n (plF b n i)
        obtain ⟨x1, x2⟩ := enT_kd (b := b) (n := n) (p := plF b n i) (by omega)
        have k := wh_is b (p := plF b n i) (e := enT b n (plF b n i)) (t := t) (by omega) (fun j j1 j2 => kd_1 (by rw [x1 j j1 j2]; exact e1)) ht
        by_cases q : wcd (lxm b (plF b n i) (enT b n (plF b n i))) = t
        · rw [if_pos ((lg0 _ _).mpr (k.mpr q)), decide_eq_true q]; rfl
        · rw [if_neg (fun z => q (k.mp ((lg0 _ _).mp z))), decide_eq_false q]; rfl
  · rw [if_neg hp, if_neg hp, if_neg hp, if_neg (by decide), decide_eq_false (by unfold knT at ht; omega)]; rfl
theorem m_isS (d : Nat) {iv : Nat → Nat → Int32} {lv : Nat → Nat → Int64} {i : Nat} (h : lexM b n i iv lv) {c : Nat} (hc : c < 256) (hk3 : kd c = 3) : call X xT (d + 1) 247 [.inr (.inr (some 46)), .inl (nI c)] (SS im lw tl, iv, lv) = some (some (.inl (b2i (decide (tkF b n i = c)))), (SS im lw tl, iv, lv)) := by
  obtain ⟨h1, h2, h3, h4, h5⟩ := h
  have hk := kd_le (b (plF b n i))
  rw [tr247, h4, h5]
  unfold soF wor tkF
  by_cases hp : plF b n i < n
  · rw [if_pos hp, if_pos hp, if_pos hp]
    have h0 := plF_kd b n i hp
    unfold tkP
    by_cases e3 : kd (b (plF b n i)) = 3
    · have := h1.2.2.2 (plF b n i)
      rw [e3, if_pos rfl, if_pos rfl, if_pos rfl, nI_l (by omega)]
      by_cases q : b (plF b n i) = c
      · rw [if_pos ((lg0 _ _).mpr (by rw [q])), decide_eq_true q]; rfl
      · rw [if_neg (fun z => q ((lN_eq (by omega) (by omega)).mp ((lg0 _ _).mp z))), decide_eq_false q]; rfl
    · by_cases e2 : kd (b (plF b n i)) = 2
      · rw [e2, if_neg (by decide), if_neg (by decide), if_pos rfl, decide_eq_false (by omega)]; rfl
      · have e1 : kd (b (plF b n i)) = 1 := by omega
        have := wcd_le (lxm b (plF b n i) (enT b n (plF b n i)))
        rw [e1, if_neg (by decide), if_neg (by decide), if_neg (by decide), decide_eq_false (by omega)]; rfl
  · rw [if_neg hp, if_neg hp, if_neg hp, if_neg (by decide), decide_eq_false (by omega)]; rfl
/-- digits: what they are worth -/
theorem m_dig {iv : Nat → Nat → Int32} {lv : Nat → Nat → Int64} {i : Nat} (h : lexM b n i iv lv) : (∃ v, numT (tkF b n i) = some v ∧ iv 46 16 = nI 2 ∧ lv 46 17 = lN v ∧ v ≤ 1000) ∨ (numT (tkF b n i) = none ∧ (¬ iv 46 16 = nI 2 ∨ (iv 46 16 = nI 2 ∧ ∃ v, lv 46 17 = lN v ∧ 1000 < v ∧ v ≤ 10000300))) := by
  obtain ⟨h1, h2, h3, h4, h5⟩ := h
  have hk := kd_le (b (plF b n i))
  rw [h4, h5]
  have ne : ∀ a : Nat, a ≤ 3 → a ≠ 2 → ¬ nI a = nI 2 := fun a h1 h2 z => h2 (by have := congrArg Int32.toNatClampNeg z; rw [nI_clamp (by omega), nI_clamp (by omega)] at this; exact this)
  unfold soF wor tkF
  by_cases hp : plF b n i < n
  · rw [if_pos hp, if_pos hp, if_pos hp]
    have h0 := plF_kd b n i hp
    unfold tkP
    by_cases e3 : kd (b (plF b n i)) = 3
    · have := h1.2.2.2 (plF b n i)
      rw [if_pos e3]
      exact Or.inr ⟨by unfold numT; rw [if_neg (by omega)], Or.inl (by rw [e3]; exact ne 3 (by omega) (by omega))⟩
    · rw [if_neg e3]
      by_cases e2 : kd (b (plF b n i)) = 2
      · rw [if_pos e2, if_neg (by rw [e2]; decide), if_pos e2, e2]
        have vv := vm_vl b (enT b n (plF b n i) - plF b n i) (plF b n i) 0 0 (Or.inl rfl)
        have vb := vm_lt b h1.2.2.2 (enT b n (plF b n i) - plF b n i) (plF b n i) 0 (by omega)
        generalize vm b (enT b n (plF b n i) - plF b n i) (plF b n i) 0 = w at vv vb ⊢
        generalize vl b (enT b n (plF b n i) - plF b n i) (plF b n i) 0 = v at vv ⊢
        by_cases c : v ≤ 1000
        · have : w = v := by omega
          subst this
          exact Or.inl ⟨w, by unfold numT; rw [if_pos (by omega), show 256 + min w 1001 - 256 = w by omega], rfl, rfl, c⟩
        · exact Or.inr ⟨by unfold numT; rw [if_neg (by omega)], Or.inr ⟨rfl, w, rfl, by omega, vb⟩⟩
      · have := wcd_le (lxm b (plF b n i) (enT b n (plF b n i)))
        rw [if_neg e2]
        exact Or.inr ⟨by unfold numT; rw [if_neg (by omega)], Or.inl (ne _ hk e2)⟩
  · rw [if_neg hp, if_neg hp]
    exact Or.inr ⟨by unfold numT; rw [if_neg (by omega)], Or.inl (ne 0 (by omega) (by omega))⟩
end ml
/-! the pile and the code -/
def plM (iv : Nat → Nat → Int32) : Cd → Prop
  | [] => True
  | x :: r => iv 59 r.length = nI x.1 ∧ iv 60 r.length = nI x.2 ∧ plM iv r
theorem plM_fr {iv iv' : Nat → Nat → Int32} (m : Nat) (h1 : ∀ k, k < m → iv' 59 k = iv 59 k ∧ iv' 60 k = iv 60 k) : ∀ (P : Cd), P.length ≤ m → plM iv P → plM iv' P := by
  intro P
  induction P with
  | nil => intro _ _; trivial
  | cons x r ih =>
    intro hm h
    rw [List.length_cons] at hm
    exact ⟨by rw [(h1 _ (by omega)).1]; exact h.1, by rw [(h1 _ (by omega)).2]; exact h.2.1, ih (by omega) h.2.2⟩
def cdM (iv : Nat → Nat → Int32) (C : Cd) : Prop := ∀ k x, C[k]? = some x → iv 57 k = nI x.1 ∧ iv 58 k = nI x.2
/-- code and pile, in their places -/
def cpM (iv : Nat → Nat → Int32) (C P : Cd) : Prop := iv 46 23 = nI C.length ∧ iv 46 29 = nI P.length ∧ plM iv P ∧ pOK C P ∧ C.length + cnP P ≤ 400 ∧ P.length ≤ 400
/-- what code and pile change -/
def frP (iv iv' : Nat → Nat → Int32) : Prop := ∀ a k, ¬ (a = 57 ∨ a = 58 ∨ a = 59 ∨ a = 60 ∨ (a = 46 ∧ (k = 23 ∨ k = 29))) → iv' a k = iv a k
theorem frP.rf {iv : Nat → Nat → Int32} : frP iv iv := fun _ _ _ => rfl
theorem frP.tr {a b c : Nat → Nat → Int32} (h : frP a b) (h2 : frP b c) : frP a c := fun x k hk => (h2 x k hk).trans (h x k hk)
section mp
variable (X : XE) (im lw : List (Option Nat)) (tl : List XC)
theorem m_binds (d : Nat) (iv : Nat → Nat → Int32) (lv : Nat → Nat → Int64) : ∀ o, o < 33 → 20 ≤ o → call X xT (d + 1) 256 [.inl (nI o)] (SS im lw tl, iv, lv) = some (some (.inl (nI (bnd o))), (SS im lw tl, iv, lv)) := by
  intro o ho h20
  rw [tr256]
  unfold bnd
  have ne : ∀ a : Nat, a < 2 ^ 31 → o ≠ a → ¬ nI o = nI a := fun a ha h z => h (by have := congrArg Int32.toNatClampNeg z; rw [nI_clamp (by omega), nI_clamp (by omega)] at this; exact this)
  by_cases h1 : 31 ≤ o
  · rw [if_neg (nI_nlt h1 (by omega)), if_pos h1]
  rw [if_pos (nI_lt (by omega) (by omega)), if_neg h1]
  by_cases h2 : o = 30
  · rw [if_pos (by rw [h2]), if_pos h2]
  rw [if_neg (ne 30 (by omega) h2), if_neg h2]
  by_cases h3 : o = 29
  · rw [if_pos (by rw [h3]), if_pos h3]
  rw [if_neg (ne 29 (by omega) h3), if_neg h3]
  by_cases h4 : o = 28
  · rw [if_pos (by rw [h4]), if_pos h4]
  rw [if_neg (ne 28 (by omega) h4), if_neg h4]
  by_cases h5 : 25 ≤ o
  · rw [if_neg (nI_nlt h5 (by omega)), if_pos h5]
  rw [if_pos (nI_lt (by omega) (by omega)), if_neg h5]
  by_cases h6 : 22 ≤ o
  · rw [if_neg (nI_nlt h6 (by omega)), if_pos h6]
  rw [if_pos (nI_lt (by omega) (by omega)), if_neg h6]
theorem m_push (d : Nat) {iv : Nat → Nat → Int32} (lv : Nat → Nat → Int64) {C P : Cd} {x y : Nat} (h : cpM iv C P) (hp : P.length < 400) (hx : 20 ≤ x) (hx2 : x ≤ 32) (hy : y ≤ 400) (hj : (x = 29 ∨ x = 30) → y < C.length + 1) (hc : C.length + cnP ((x, y) :: P) ≤ 400) : ∃ iv', call X xT (d + 1) 246 [.inr (.inr (some 46)), .inl (nI x), .inl (nI y)] (SS im lw tl, iv, lv) = some (none, (SS im lw tl, iv', lv)) ∧ iv' 46 23 = nI C.length ∧ iv' 46 29 = nI (P.length + 1) ∧ plM iv' ((x, y) :: P) ∧ (cdM iv C → cdM iv' C) ∧ frP iv iv' := by
  obtain ⟨h1, h2, h3, h4, h5, h6⟩ := h
  rw [tr246, h2, if_pos (inb_nI (by omega) (by omega)), if_pos (inb_nI (by omega) (by omega)), nI_clamp (by omega), nI_add]
  refine ⟨_, rfl, ?_, ?_, ⟨?_, ?_, ?_⟩, fun hc k z hz => ?_, fun a k hk => ?_⟩
  · rw [upd2_ne _ _ _ _ (by decide), upd2_off _ _ _ _ (by decide), upd2_off _ _ _ _ (by decide)]; exact h1
  · rw [upd2_self]
  · rw [upd2_off _ _ _ _ (by decide), upd2_off _ _ _ _ (by decide), upd2_self]
  · rw [upd2_off _ _ _ _ (by decide), upd2_self]
  · refine plM_fr P.length (fun k hk => ⟨?_, ?_⟩) P (Nat.le_refl _) h3
    · rw [upd2_off _ _ _ _ (by decide), upd2_off _ _ _ _ (by decide), upd2_ne _ _ _ _ (by omega)]
    · rw [upd2_off _ _ _ _ (by decide), upd2_ne _ _ _ _ (by omega), upd2_off _ _ _ _ (by decide)]
  · rw [upd2_off _ _ _ _ (by decide), upd2_off _ _ _ _ (by decide), upd2_off _ _ _ _ (by decide), upd2_off _ _ _ _ (by decide), upd2_off _ _ _ _ (by decide), upd2_off _ _ _ _ (by decide)]; exact hc k z hz
  · rw [upd2_ne _ _ _ _ (by omega), upd2_ne _ _ _ _ (by omega), upd2_ne _ _ _ _ (by omega)]
theorem m_emit (d : Nat) {iv : Nat → Nat → Int32} (lv : Nat → Nat → Int64) {C : Cd} (hC : iv 46 23 = nI C.length) (hl : C.length < 400) (x y : Int32) : ∃ iv', call X xT (d + 1) 253 [.inr (.inr (some 46)), .inl x, .inl y] (SS im lw tl, iv, lv) = some (none, (SS im lw tl, iv', lv)) ∧ iv' 46 23 = nI (C.length + 1) ∧ iv' 46 29 = iv 46 29 ∧ iv' 59 = iv 59 ∧ iv' 60 = iv 60 ∧ (∀ a c, x = nI a → y = nI c → cdM iv C → cdM iv' (C ++ [(a, c)])) ∧ frP iv iv' := by
  rw [tr253, hC, if_pos (inb_nI (by omega) (by omega)), if_pos (inb_nI (by omega) (by omega)), nI_clamp (by omega), nI_add]
  refine ⟨_, rfl, by rw [upd2_self], ?_, ?_, ?_, fun a c ha hc hcd k z hz => ?_, fun a k hk => ?_⟩
  · rw [upd2_ne _ _ _ _ (by decide), upd2_off _ _ _ _ (by decide), upd2_off _ _ _ _ (by decide)]
  · rw [upd2_off _ _ _ _ (by decide), upd2_off _ _ _ _ (by decide), upd2_off _ _ _ _ (by decide)]
  · rw [upd2_off _ _ _ _ (by decide), upd2_off _ _ _ _ (by decide), upd2_off _ _ _ _ (by decide)]
  · have e57 : ∀ j, (upd2 (upd2 (upd2 iv 57 C.length x) 58 C.length y) 46 23 (nI (C.length + 1))) 57 j = (upd2 iv 57 C.length x) 57 j := fun j => by rw [upd2_off _ _ _ _ (by decide), upd2_off _ _ _ _ (by decide)]
    have e58 : ∀ j, (upd2 (upd2 (upd2 iv 57 C.length x) 58 C.length y) 46 23 (nI (C.length + 1))) 58 j = (upd2 (upd2 iv 57 C.length x) 58 C.length y) 58 j := fun j => by rw [upd2_off _ _ _ _ (by decide)]
    rw [e57, e58]
    by_cases e : k < C.length
    · rw [List.getElem?_append_left e] at hz
      rw [upd2_ne _ _ _ _ (by omega), upd2_ne _ _ _ _ (by omega), upd2_off _ _ _ _ (by decide)]
      exact hcd k z hz
    · have hk : k < (C ++ [(a, c)]).length := (List.getElem?_eq_some_iff.mp hz).1
      rw [List.length_append, List.length_singleton] at hk
      have : k = C.length := by omega
      subst this
      rw [List.getElem?_append_right (by omega), Nat.sub_self] at hz
      injection hz with hz
      rw [upd2_self, upd2_self, ← hz, ha, hc]
      exact ⟨rfl, rfl⟩
  · rw [upd2_ne _ _ _ _ (by omega), upd2_ne _ _ _ _ (by omega), upd2_ne _ _ _ _ (by omega)]
end mp
