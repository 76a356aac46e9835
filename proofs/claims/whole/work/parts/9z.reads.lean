/-! the class reads a text -/
def rowsC (iv : Nat → Nat → Int32) (gs : List GC) : Prop := ∀ j g, gs[j]? = some g → ∀ k, k < 5 → iv 14 (j * 5 + k) = rwC g (cA (gs.take j)).length k
theorem rows_snoc {iv iv' : Nat → Nat → Int32} {gs : List GC} {g : GC} (h : rowsC iv gs) (h1 : ∀ k, k < gs.length * 5 → iv' 14 k = iv 14 k) (h2 : ∀ k, k < 5 → iv' 14 (gs.length * 5 + k) = rwC g (cA gs).length k) : rowsC iv' (gs ++ [g]) := by
  intro j x hx k hk
  by_cases e : j < gs.length
  · rw [List.getElem?_append_left e] at hx
    rw [h1 _ (by omega), List.take_append_of_le_length (by omega)]
    exact h j x hx k hk
  · have hj : j < (gs ++ [g]).length := (List.getElem?_eq_some_iff.mp hx).1
    rw [List.length_append, List.length_singleton] at hj
    have : j = gs.length := by omega
    subst this
    rw [List.getElem?_append_right (by omega), Nat.sub_self] at hx
    injection hx with hx
    rw [List.take_append_of_le_length (by omega), List.take_length, ← hx]
    exact h2 k hk
theorem inV_tI {t B : Nat} (ht : t ≤ 9999) (hB : B ≤ 3000) (hB2 : 1 ≤ B) : inV (tI t - nI B) (nI 3) = decide (B ≤ t ∧ t ≤ B + 3) := by
  unfold tI
  by_cases e : t = 9999
  · rw [if_pos e, decide_eq_false (by omega)]
    unfold inV
    refine decide_eq_false (fun z => z.1 ?_)
    have : (-1 : Int32) - nI B = - nI (B + 1) := by rw [Int32.sub_eq_add_neg, ← nI_add, Int32.neg_add, Int32.add_comm, ← Int32.sub_eq_add_neg]; rfl
    rw [this, fb_lt, Int32.toInt_neg, nI_toInt (by omega), show (0 : Int32).toInt = 0 by decide, Int.bmod_eq_of_le (by omega) (by omega)]
    omega
  · rw [if_neg e]
    rcases Nat.lt_or_ge t B with y | y
    · rw [decide_eq_false (by omega)]
      unfold inV
      exact decide_eq_false (fun z => z.1 (pk_sneg (by omega) y))
    · rw [pk_sub y, inV_d (by omega) (by omega)]
      exact decide_eq_decide.mpr (by omega)
section rd
variable {X : XE} {im lw : List (Option Nat)} {tl : List XC} {lv : Nat → Nat → Int64} {q : Bool} {tk pl : Nat → Nat} {nt : Nat}
theorem poL_f {α : Type} {iv : Nat → Nat → Int32} {C : Cd} {c i m : Nat} {Q : α → Nat → Nat → (Nat → Nat → Int32) → Prop} (h : stC q tk pl nt iv C c i) {K : Int32 → XH → Option XR} (hK : ∀ iv', K (nI 0) (SS im lw tl, iv', lv) = some (some (.inl (nI 0)), (SS im lw tl, iv', lv))) : poL im lw tl lv pl iv (.inl i) Q (bI (call X xT (m + 1) 84 [.inr (.inr (some 11))] (SS im lw tl, iv, lv)) K) := by
  obtain ⟨iv', a1, a2, a3, a4⟩ := c_fails X im lw tl lv m h
  rw [a1, bI_some]
  exact ⟨iv', hK iv', a2, a3.L⟩
def QC (q : Bool) (tk pl : Nat → Nat) (nt : Nat) (gs : List GC) (g : GC) (c i : Nat) (iv : Nat → Nat → Int32) : Prop := stC q tk pl nt iv (cA (gs ++ [g])) c i ∧ iv 12 3 = nI (gs.length + 1) ∧ rowsC iv (gs ++ [g])
theorem c_law1 (d : Nat) (he : tk nt = 9999) {iv : Nat → Nat → Int32} {gs : List GC} {c i : Nat} (hm : gs.length < 12) (h : stC q tk pl nt iv (cA gs) c i) (h3 : iv 12 3 = nI gs.length) (hr : rowsC iv gs) : poL im lw tl lv pl iv (pLaw q tk c i) (QC q tk pl nt gs) (call X xT (d + 36) 103 [.inr (.inr (some 11))] (SS im lw tl, iv, lv)) := by
  have ht := h.t
  have hCi : (cA gs).length ≤ i := h.2.2.2.2.2.2.2.1
  rw [tr103, h.2.2.2.2.1, c_within X (d + 34), bI_some, sg103_14, b2i_ite, inV_tI ht (by omega) (by omega)]
  unfold pLaw
  by_cases e : 2000 ≤ tk i ∧ tk i ≤ 2003
  · rw [if_pos (decide_eq_true e), if_pos e]
    have ek : tI (tk i) - nI 2000 = nI (tk i - 2000) := by unfold tI; rw [if_neg (by omega), pk_sub (by omega)]
    obtain ⟨iv1, a1, a2, a3, a4, a5, a6, a7, a8, a9, a10⟩ := c_open (X := X) (im := im) (lw := lw) (tl := tl) (lv := lv) (d + 33) hm h h3 (nI (tk i - 2000))
    obtain ⟨iv2, b1, b2, b3⟩ := c_next X im lw tl lv (d + 34) a2 (a2.lt (show tk i ≤ 4000 by omega) rfl)
    rw [ek, a1, bV_some, sg103_30, b1, bV_some, sg103_34]
    have f2 : fr [11, 12, 13, 14] iv iv2 := a4.tr b3.L
    have i3 : iv2 12 3 = nI (gs.length + 1) := by rw [b3.m.2]; exact a3
    have lo : ∀ k, k < gs.length * 5 → iv2 14 k = iv 14 k := fun k hk => by rw [b3.m.1]; exact a10 k (Or.inl hk)
    by_cases e3 : tk i = 2003
    · rw [if_pos (show nI (tk i - 2000) = nI 3 by rw [e3]), if_pos e3]
      refine poL_tr (poL_bI (c_if (d + 0) he hm b2 i3) (fun iv' => by rw [sg103_53, if_pos (by decide)]) (fun t c1 i1 iv3 hq hQ hf => ?_)) f2
      obtain ⟨q1, q2, q3⟩ := hQ
      rw [sg103_53, if_pos (by decide)]
      refine ⟨iv3, rfl, ⟨?_, q2, rows_snoc hr (fun k hk => ?_) (fun k hk => ?_)⟩, hf⟩
      · rw [cA_snoc]; exact q1
      · rw [q3, if_neg (by omega)]; exact lo k hk
      · have z : iv3 14 (gs.length * 5 + k) = if k = 4 then ixT t (cA gs).length else iv2 14 (gs.length * 5 + k) := by
          rw [q3]
          by_cases k4 : k = 4
          · rw [if_pos k4, k4]
            cases t with
            | none => rw [if_neg (fun z => by cases z.2), b3.m.1]; exact a9
            | some t => rw [if_pos ⟨rfl, rfl⟩]; rfl
          · rw [if_neg k4, if_neg (by omega)]
        rw [z, b3.m.1]
        have : k = 0 ∨ k = 1 ∨ k = 2 ∨ k = 3 ∨ k = 4 := by omega
        rcases this with rfl | rfl | rfl | rfl | rfl
        · rw [if_neg (by decide)]; exact a5.trans (by rw [e3]; rfl)
        · rw [if_neg (by decide)]; exact a6
        · rw [if_neg (by decide)]; exact a7
        · rw [if_neg (by decide)]; exact a8
        · rw [if_pos rfl]; rfl
    · have ne : ¬ nI (tk i - 2000) = nI 3 := fun z => by have := congrArg Int32.toNatClampNeg z; rw [nI_clamp (by omega), nI_clamp (by omega)] at this; omega
      rw [if_neg ne, if_neg e3]
      refine poL_tr (poL_bI (c_wsum (d + 0) he hm (k := 2) (by omega) b2 i3 (by omega)) (fun iv' => by rw [sg103_44, if_pos n0z]) (fun ex c1 i1 iv3 hq hQ hf => ?_)) f2
      obtain ⟨q1, q2, q3⟩ := hQ
      rw [sg103_44, if_neg n1z]
      refine poL_tr (poL_bI (c_if (d + 0) he hm q1 q2) (fun iv' => by rw [sg103_53, if_pos (by decide)]) (fun t c2 i2 iv4 hq2 hQ2 hf2 => ?_)) hf
      obtain ⟨r1, r2, r3⟩ := hQ2
      rw [sg103_53, if_pos (by decide)]
      have z3 := q3
      have z4 := r3
      refine ⟨iv4, rfl, ⟨?_, r2, rows_snoc hr (fun k hk => ?_) (fun k hk => ?_)⟩, hf2⟩
      · rw [cA_snoc]
        show stC q tk pl nt iv4 (cA gs ++ (sE (some ex) ++ ([] ++ sT t ((cA gs).length + (sE (some ex)).length + 0)))) c2 i2
        rw [List.nil_append, ← List.append_assoc, Nat.add_zero, ← List.length_append]
        exact r1
      · rw [z4, if_neg (by omega), z3, if_neg (by omega)]; exact lo k hk
      · rw [z4, z3, b3.m.1]
        have : k = 0 ∨ k = 1 ∨ k = 2 ∨ k = 3 ∨ k = 4 := by omega
        rcases this with rfl | rfl | rfl | rfl | rfl
        · rw [if_neg (by omega), if_neg (by omega)]; exact a5
        · rw [if_neg (by omega), if_neg (by omega)]; exact a6
        · rw [if_neg (by omega), if_pos rfl]; rfl
        · rw [if_neg (by omega), if_neg (by omega)]; exact a8
        · cases t with
          | none => rw [if_neg (fun z => by cases z.2), if_neg (by omega)]; exact a9
          | some t =>
            rw [if_pos ⟨rfl, rfl⟩, List.length_append]
            rfl
  · rw [if_neg (show ¬ decide (2000 ≤ tk i ∧ tk i ≤ 2000 + 3) = true by rw [decide_eq_false (by omega)]; decide), if_neg e]
    exact poL_f (m := d + 34) h (fun iv' => by rw [sg103_21, if_pos (by decide)])
end rd
