/-! orders: the class's call -/
theorem relC_stop {A : St} {im lw : List (Option Nat)} {tl : List XC} {iv : Nat → Nat → Int32} (h : RelC A im lw tl iv) (v : Int32) : RelC (stStop A v) im lw tl (upd2 iv 0 16 v) := by
  obtain ⟨h0, h1, h2, h3, h4, h5, h6⟩ := h
  have z : ∀ a, a ≠ 0 → (upd2 iv 0 16 v) a = iv a := fun a ha => upd2_off _ _ _ _ ha
  refine ⟨h0, h1.fr (z _ (by omega)) (z _ (by omega)) (z _ (by omega)) (z _ (by omega)) (z _ (by omega)) (fun x hx => z x (by have := hx.1; omega)), h2.fr (fun a ha => z a (by omega)), by rw [z 9 (by omega), z 10 (by omega)]; exact h3, h4.fr (z _ (by omega)) (z _ (by omega)) (z _ (by omega)), by rw [z 41 (by omega)]; exact h5, ?_⟩
  obtain ⟨m1, m2, m3, m4, m5⟩ := h6
  exact ⟨by rw [z 11 (by omega)]; exact m1, upd2_self _ _ _ _, by rw [upd2_ne _ _ _ _ (by omega)]; exact m3, by rw [upd2_ne _ _ _ _ (by omega)]; exact m4, by rw [z 45 (by omega)]; exact m5⟩
theorem relC_back {B : St} {im lw : List (Option Nat)} {tl : List XC} {iv iv' : Nat → Nat → Int32} (h : RelC B im lw tl iv) (e3 : ∀ j, j < 59 → iv' 3 j = iv 3 j) (e31 : ∀ j, j < 944 → iv' 31 j = iv 31 j) (e32 : ∀ j, j < 16 → iv' 32 j = iv 32 j) (e2 : iv' 30 2 = iv 30 2) (e30 : iv' 30 3 = iv 30 3) (f : fr [3, 18, 20, 30, 31, 32, 33, 34, 35, 36, 37, 42] iv iv') : RelC B im lw tl iv' := by
  have hs : RelC B im lw tl (upr iv 3 (iv' 3)) := RelC.sc h (g := iv' 3) (f := B.1.1) (fun j hj => by rw [e3 j hj]; exact h.eq j hj)
  have z : ∀ a, (a < 18 ∨ 43 ≤ a ∨ a = 41) → iv' a = (upr iv 3 (iv' 3)) a := fun a ha => by
    by_cases c : a = 3
    · subst c; rw [upr_self]
    · rw [upr_off _ _ _ c]; exact f a (by simp; omega)
  have l30 : ∀ a, a ≠ 3 → (upr iv 3 (iv' 3)) a = iv a := fun a ha => upr_off _ _ _ ha
  obtain ⟨h0, h1, h2, h3, h4, h5, h6⟩ := hs
  refine ⟨h0, h1.fr (z _ (by omega)) (z _ (by omega)) (z _ (by omega)) (z _ (by omega)) (z _ (by omega)) (fun x hx => z x (by have := hx.1; omega)), h2.fr (fun a ha => z a (by omega)), by rw [z 9 (by omega), z 10 (by omega)]; exact h3, ?_, by rw [z 41 (by omega)]; exact h5, ?_⟩
  · obtain ⟨nx, n1, n2, n3, n4⟩ := h4
    rw [l30 30 (by omega)] at n2 n3
    refine ⟨nx, n1, by rw [e2]; exact n2, by rw [e30]; exact n3, fun i e he => ?_⟩
    have hq := n4 i e he
    rw [l30 31 (by omega), l30 32 (by omega)] at hq
    have hm : (nx + 15 - i) % 16 < 16 := Nat.mod_lt _ (by omega)
    exact ⟨by rw [e32 _ hm]; exact hq.1, fun j hj => by rw [e31 _ (by omega)]; exact hq.2 j hj⟩
  · unfold miscC
    rw [z 11 (by omega), z 0 (by omega), z 45 (by omega)]
    exact h6
theorem cpy_at {α : Type} (f g : Nat → α) {n j : Nat} (hj : j < n) : va_cpy f g 0 0 n j = f j := by
  rw [pk_cpy_in (by omega) (by omega), show 0 + (j - 0) = j by omega]
theorem c_logA (X : XE) (d : Nat) (im lw : List (Option Nat)) (tl : List XC) (iv : Nat → Nat → Int32) (lv : Nat → Nat → Int64) : ∃ iv', call X xT (d + 1) 110 [.inr (.inr (some 33)), .inr (.inr (some 30))] (SS im lw tl, iv, lv) = some (none, (SS im lw tl, iv', lv)) ∧ (∀ j, j < 944 → iv' 34 j = iv 31 j) ∧ (∀ j, j < 16 → iv' 35 j = iv 32 j) ∧ iv' 33 2 = iv 30 2 ∧ iv' 33 3 = iv 30 3 ∧ fr [33, 34, 35] iv iv' := by
  rw [tr110a, xcopy_ok (S := SS im lw tl) _ _ (b := 31) (a := 34) (nb := 944) (na := 944) (rb := []) (ra := []) rfl rfl (by omega) (by omega) (by omega) (by omega), sg110_18a, xcopy_ok (S := SS im lw tl) _ _ (b := 32) (a := 35) (nb := 16) (na := 16) (rb := []) (ra := []) rfl rfl (by omega) (by omega) (by omega) (by omega), sg110_36a]
  refine ⟨_, rfl, fun j hj => ?_, fun j hj => ?_, ?_, ?_, ?_⟩
  · rw [upd2_off _ _ _ _ (by omega), upd2_off _ _ _ _ (by omega), upr_off _ _ _ (by omega), upr_self, cpy_at _ _ hj]
  · rw [upd2_off _ _ _ _ (by omega), upd2_off _ _ _ _ (by omega), upr_self, cpy_at _ _ hj, upr_off _ _ _ (by omega)]
  · rw [upd2_ne _ _ _ _ (by omega), upd2_self, upr_off _ _ _ (by omega), upr_off _ _ _ (by omega)]
  · rw [upd2_self, upr_off _ _ _ (by omega), upr_off _ _ _ (by omega)]
  · exact (((fr_upr _ _ (by simp)).tr (fr_upr _ _ (by simp))).tr (fr_upd _ _ _ (by simp))).tr (fr_upd _ _ _ (by simp))
theorem c_logB (X : XE) (d : Nat) (im lw : List (Option Nat)) (tl : List XC) (iv : Nat → Nat → Int32) (lv : Nat → Nat → Int64) : ∃ iv', call X xT (d + 1) 110 [.inr (.inr (some 30)), .inr (.inr (some 33))] (SS im lw tl, iv, lv) = some (none, (SS im lw tl, iv', lv)) ∧ (∀ j, j < 944 → iv' 31 j = iv 34 j) ∧ (∀ j, j < 16 → iv' 32 j = iv 35 j) ∧ iv' 30 2 = iv 33 2 ∧ iv' 30 3 = iv 33 3 ∧ fr [30, 31, 32] iv iv' := by
  rw [tr110b, xcopy_ok (S := SS im lw tl) _ _ (b := 34) (a := 31) (nb := 944) (na := 944) (rb := []) (ra := []) rfl rfl (by omega) (by omega) (by omega) (by omega), sg110_18b, xcopy_ok (S := SS im lw tl) _ _ (b := 35) (a := 32) (nb := 16) (na := 16) (rb := []) (ra := []) rfl rfl (by omega) (by omega) (by omega) (by omega), sg110_36b]
  refine ⟨_, rfl, fun j hj => ?_, fun j hj => ?_, ?_, ?_, ?_⟩
  · rw [upd2_off _ _ _ _ (by omega), upd2_off _ _ _ _ (by omega), upr_off _ _ _ (by omega), upr_self, cpy_at _ _ hj]
  · rw [upd2_off _ _ _ _ (by omega), upd2_off _ _ _ _ (by omega), upr_self, cpy_at _ _ hj, upr_off _ _ _ (by omega)]
  · rw [upd2_ne _ _ _ _ (by omega), upd2_self, upr_off _ _ _ (by omega), upr_off _ _ _ (by omega)]
  · rw [upd2_self, upr_off _ _ _ (by omega), upr_off _ _ _ (by omega)]
  · exact (((fr_upr _ _ (by simp)).tr (fr_upr _ _ (by simp))).tr (fr_upd _ _ _ (by simp))).tr (fr_upd _ _ _ (by simp))
def stOrd (A : St) (v : Int32) : St := stFault (stTape (stStop A (-1))) v
def fin_ord (A : St) (r : Nat ⊕ (St × Nat × Int32)) : Int32 × St := match r with
  | .inl k => rfs 2 (stStop (stOrd A (-1)) (nI k))
  | .inr s => (nI s.2.1, stS s.1 (nI 0))
def sp_ord (A : St) : Int32 × St := match txtR true A.2.2.1 with
  | .inl e => rfs 4 (stOrd A (nI (plF (bytF A.2.2.1) A.2.2.1.1 e)))
  | .inr gs => fin_ord A (oAll gs 0 (stOrd A (-1), 0, -1))
theorem OKA.ord {A : St} (h : OKA A) (v : Int32) : OKA (stOrd A v) := ⟨h.1, h.2.1, ⟨by show 0 ≤ 400; omega, fun j hj => by have hj : j < 0 := hj; omega⟩, h.2.2.2.1, h.2.2.2.2⟩
theorem C_orders : CSpec 108 [] sp_ord := by
  intro X hX d im lw tl iv lv A h ho
  show CR' im lw tl iv lv _ _
  have hs := relC_stop h (-1)
  have hT := ho.2.2.1
  obtain ⟨hb1, hb2⟩ := bytF_ok hT
  have u0 : ∀ a, a ≠ 0 → (upd2 iv 0 16 (-1)) a = iv a := fun a ha => upd2_off _ _ _ _ ha
  have tx : txtC (bytF A.2.2.1) A.2.2.1.1 (upd2 iv 0 16 (-1)) := ⟨hs.2.2.2.1.1, hT.1, fun j hj => by rw [u0 10 (by omega), h.2.2.2.1.2 j hj]; exact hb1 j hj, hb2⟩
  rw [tr108]
  have m0 : midI iv (upd2 iv 0 16 (-1)) := mid_upd _ _ _ (by decide)
  generalize upd2 iv 0 16 (-1) = ivs at hs tx m0
  obtain ⟨iv2, p, f2, g1, g0⟩ := c_reads (X := X) (im := im) (lw := lw) (tl := tl) (lv := lv) hX (d + 2) tx true
  have p : poT im lw tl lv (plF (bytF A.2.2.1) A.2.2.1.1) iv2 (txtR true A.2.2.1) (call X xT (d + 39) 69 [.inr (.inr (some 11)), .inl (nI 1)] (SS im lw tl, ivs, lv)) := p
  unfold sp_ord
  cases hr : txtR true A.2.2.1 with
  | inl e =>
    rw [hr] at p
    obtain ⟨iv3, p1, p2, p3⟩ := p
    have f3 : fr [9, 11, 12, 13, 14, 15, 16] ivs iv3 := f2.tr (p3.mo (by simp))
    rw [p1, bI_some, sg108_13, if_pos n0z, c_rf4 hX (d + 38), bI_some, sg108_22]
    exact crf2 (A := stOrd A _) (relC_rd hs f3 (by rw [p3 9 (by decide)]; exact g1) p2) (m0.tr (f3.mid (by simp))) midL.rf (i := 4) (by decide) rfl
  | inr gs =>
    rw [hr] at p
    obtain ⟨iv3, p1, p2, p3, p4, p5, p6, p7, p8, p9⟩ := p
    have f3 : fr [9, 11, 12, 13, 14, 15, 16] ivs iv3 := f2.tr (p9.mo (by simp))
    have m3 : midI iv iv3 := m0.tr (f3.mid (by simp))
    have gok := (pText_ok (nt := ntF (bytF A.2.2.1) A.2.2.1.1) true (tkF_end _ _) 12 [] 0 0 gs (by omega) (Nat.zero_le _) (fun g hg => by cases hg) hr).2
    have r3 : RelC (stOrd A (-1)) im lw tl iv3 := relC_rd hs f3 (by rw [p9 9 (by decide)]; exact g1) p2
    have pr3 : prgC (SS im lw tl) iv3 gs := ⟨⟨13, 400, [some 14, none, none], rfl, rfl, by omega, p5, p6, fun i hi => by
      have hget : (cA gs)[i]? = some ((cA gs).getD i (0, 0)) := by rw [List.getD_eq_getElem?_getD, List.getElem?_eq_getElem hi]; rfl
      obtain ⟨q1, q2⟩ := law_cdq gok p6 i hi
      exact ⟨p7 i _ hget, q1, q2⟩⟩, ⟨13, 14, 60, [none, none], rfl, rfl, by omega, p4, by omega, by omega, p3, fun j hj => rfl⟩, p6, gok, p8⟩
    rw [p1, bI_some, sg108_13, if_neg n1z, c_sccopy (S := SS im lw tl) _ _ (a := 36) (b := 2) (ca := 37) (cb := 3) rfl rfl rfl rfl, bV_some, sg108_37]
    obtain ⟨iv4, l1, l2, l3, l4, l5, l6⟩ := c_logA X (d + 38) im lw tl (upr iv3 37 (va_cpy (iv3 3) (iv3 37) 0 0 59)) lv
    rw [upr_off _ _ _ (by decide)] at l2 l3 l4 l5
    rw [l1, bV_some, sg108_48, tr104]
    have k37 : ∀ j, j < 59 → iv4 37 j = iv3 3 j := fun j hj => by rw [l6 37 (by decide), upr_self, cpy_at _ _ hj]
    have f4 : fr [33, 34, 35, 36, 37, 42] iv3 (upd2 (upd2 iv4 42 1 (nI 0)) 42 2 (-1)) := (((fr_upr _ _ (by simp)).tr (l6.mo (by simp))).tr (fr_upd _ _ _ (by simp))).tr (fr_upd _ _ _ (by simp))
    have c42 : ∀ a, a ≠ 42 → (upd2 (upd2 iv4 42 1 (nI 0)) 42 2 (-1)) a = iv4 a := fun a ha => by rw [upd2_off _ _ _ _ ha, upd2_off _ _ _ _ ha]
    have i421 : (upd2 (upd2 iv4 42 1 (nI 0)) 42 2 (-1)) 42 1 = nI 0 := by rw [upd2_ne _ _ _ _ (by omega), upd2_self]
    have i422 : (upd2 (upd2 iv4 42 1 (nI 0)) 42 2 (-1)) 42 2 = -1 := upd2_self _ _ _ _
    generalize upd2 (upd2 iv4 42 1 (nI 0)) 42 2 (-1) = iv5 at f4 c42 i421 i422
    show CR' im lw tl iv lv (run X _ false 1 xc108 69 _ [.inr (.inr (some 12))] _) _
    rw [sg108_69]
    have r5 : RelC (stOrd A (-1)) im lw tl iv5 := r3.fr (fun a ha => f4 a (by simp [ncC] at ha; simp; omega)) (fun a ha => f4 a (by simp; omega))
    have m5 : midI iv iv5 := m3.tr (f4.mid (by simp))
    have hal := c_oAll X (d + 26) (im := im) (lw := lw) (tl := tl) gs 0 (stOrd A (-1), 0, -1) iv5 lv none (by omega) (fun j => by rw [Nat.zero_add]) ⟨r5, ho.ord _, pr3.fr (f4 _ (by decide)) (f4 _ (by decide)) (f4 _ (by decide)), i421, i422⟩
    have hal : oaC X (call X xT (d + 39)) im lw tl gs iv5 lv (run X (call X xT (d + 39)) false 1 xc108 72 [some (.inr (.inr (some 0))), some (.inr (.inr (some 12))), some (.inl (nI 0)), none] [] (SS im lw tl, iv5, lv)) (oAll gs 0 (stOrd A (-1), 0, -1)) := hal
    show CR' im lw tl iv lv _ (fin_ord A (oAll gs 0 (stOrd A (-1), 0, -1)))
    cases hq : oAll gs 0 (stOrd A (-1), 0, -1) with
    | inr s =>
      rw [hq] at hal
      obtain ⟨iv6, lv6, v, w, a1, a2, a3, a4⟩ := hal
      rw [a1, tr22, bI_some, sg108_193, a2.2.2.2.1]
      exact ⟨_, lv6, rfl, RelC.st a2.1 (nI 0), (m5.tr (a3.mid (by simp))).tr (mid_upd _ _ _ (by decide)), a4.mid⟩
    | inl k =>
      rw [hq] at hal
      obtain ⟨iv6, lv6, v, a1, a3, a4⟩ := hal
      rw [a1, c_sccopy (S := SS im lw tl) _ _ (a := 2) (b := 36) (ca := 3) (cb := 37) rfl rfl rfl rfl, bV_some, sg108_143]
      have rs := relC_stop r5 (nI k)
      have s0 : ∀ a, a ≠ 0 → (upd2 iv6 0 16 (nI k)) a = iv6 a := fun a ha => upd2_off _ _ _ _ ha
      have s5 : ∀ a, a ≠ 0 → (upd2 iv5 0 16 (nI k)) a = iv5 a := fun a ha => upd2_off _ _ _ _ ha
      obtain ⟨iv7, b1, b2, b3, b4, b5, b6⟩ := c_logB X (d + 38) im lw tl (upr (upd2 iv6 0 16 (nI k)) 3 (va_cpy ((upd2 iv6 0 16 (nI k)) 37) ((upd2 iv6 0 16 (nI k)) 3) 0 0 59)) lv6
      rw [upr_off _ _ _ (by decide), s0 _ (by decide)] at b2 b3 b4 b5
      rw [b1, bV_some, sg108_154, c_rf2 hX (d + 38), bI_some, sg108_160]
      have e7 : ∀ a, a ≠ 3 → a ≠ 30 → a ≠ 31 → a ≠ 32 → iv7 a = (upd2 iv6 0 16 (nI k)) a := fun a h1 h2 h3 h4 => by rw [b6 a (by simp; omega), upr_off _ _ _ h1]
      have up : ∀ a, frQ iv5 iv6 → (a ∉ [3, 18, 20, 30, 31, 32, 42]) → (upd2 iv6 0 16 (nI k)) a = (upd2 iv5 0 16 (nI k)) a := fun a hf ha => by
        by_cases c : a = 0
        · subst c
          funext j
          by_cases cj : j = 16
          · subst cj; rw [upd2_self, upd2_self]
          · rw [upd2_ne _ _ _ _ (by omega), upd2_ne _ _ _ _ (by omega), hf 0 (by decide)]
        · rw [s0 a c, s5 a c, hf a ha]
      have f34 : ∀ a, a ≠ 33 → a ≠ 34 → a ≠ 35 → a ≠ 36 → a ≠ 37 → a ≠ 42 → iv5 a = iv3 a := fun a h1 h2 h3 h4 h5 h6 => f4 a (by simp; omega)
      refine crf2 (A := stStop (stOrd A (-1)) (nI k)) (relC_back rs (fun j hj => ?_) (fun j hj => ?_) (fun j hj => ?_) ?_ ?_ (fun a ha => ?_)) ((m5.tr (a3.mid (by simp))).tr ((mid_upd iv6 16 (nI k) (show 0 < 46 by decide)).tr ?_)) a4.mid (i := 2) (by decide) rfl
      · rw [b6 3 (by decide), upr_self, cpy_at _ _ hj, s0 37 (by decide), a3 37 (by decide), c42 37 (by decide), k37 j hj, s5 3 (by decide), f34 3 (by decide) (by decide) (by decide) (by decide) (by decide) (by decide)]
      · rw [b2 j hj, a3 34 (by decide), c42 34 (by decide), l2 j hj, s5 31 (by decide), f34 31 (by decide) (by decide) (by decide) (by decide) (by decide) (by decide)]
      · rw [b3 j hj, a3 35 (by decide), c42 35 (by decide), l3 j hj, s5 32 (by decide), f34 32 (by decide) (by decide) (by decide) (by decide) (by decide) (by decide)]
      · rw [b4, a3 33 (by decide), c42 33 (by decide), l4, s5 30 (by decide), f34 30 (by decide) (by decide) (by decide) (by decide) (by decide) (by decide)]
      · rw [b5, a3 33 (by decide), c42 33 (by decide), l5, s5 30 (by decide), f34 30 (by decide) (by decide) (by decide) (by decide) (by decide) (by decide)]
      · simp only [List.mem_cons, List.not_mem_nil, or_false, not_or] at ha
        rw [e7 a (by omega) (by omega) (by omega) (by omega)]
        exact up a a3 (by simp; omega)
      · exact (mid_upr _ _ (by decide)).tr (b6.mid (by simp))
