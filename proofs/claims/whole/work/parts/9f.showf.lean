def showL (A : St) (t td : Nat) : List Lf := lev 6 (showS A.1.1 (nP A.1.1) (lawOf A.1) t (nI td)) (pc6 td) 0 (fun _ => 0) 0
def shV (o : Option Lf) : Int32 := match o with
  | none => -1
  | some b => nI b.1
theorem c_findShow (X : XE) (d : Nat) {im lw : List (Option Nat)} {tl : List XC} {A : St} (ho : OKA A) {t td : Nat} (ht : t < 4) (htd : td < 64) (iv : Nat → Nat → Int32) (lv : Nat → Nat → Int64) (h : RelC A im lw tl iv) : ∃ iv' lv', call X xT (d + 20) 144 [.inr (.inr (some 21)), .inr (.inr (some 1)), .inl (nI t), .inl (nI td)] (SS im lw tl, iv, lv) = some (some (.inl (shV (bst none (showL A t td)))), (SS im lw tl, iv', lv')) ∧ fr [18, 20, 21, 23, 24, 25, 26, 27] iv iv' ∧ agL lv lv' ∧ ∀ b, bst none (showL A t td) = some b → b.1 ≤ 6 ∧ ∀ i, i < pc6 td → iv' 27 i = b.2 i := by
  obtain ⟨p0, p1, t0, t1, hk⟩ := cfacts h ho
  have p6 := pc_le td htd
  obtain ⟨iv1, lv1, a1, a2, a3, a4⟩ := c_turnAll X (d + 13) ho ht (nI td) (im := im) (lw := lw) (tl := tl) 6 0 iv lv (by omega) h (fun q hq => by omega)
  have e3 : iv1 3 = iv 3 := a2 3 (by decide)
  generalize hg : upd2 (upr iv1 23 (va_cpy (iv1 3) (iv1 23) 0 0 59)) 21 8 (nI 7) = ivg
  have g23 : ∀ j, j < 59 → ivg 23 j = A.1.1 j := fun j hj => by
    rw [← hg, upd2_off _ _ _ _ (by decide), upr_self, pk_cpy_in (by omega) (by omega), show 0 + (j - 0) = j by omega, e3]; exact h.eq j hj
  have g25 : ivg 25 = iv1 25 := by rw [← hg, upd2_off _ _ _ _ (by decide), upr_off _ _ _ (by decide)]
  have g21 : ivg 21 8 = nI 7 := by rw [← hg, upd2_self]
  have gf : fr [21, 23] iv1 ivg := hg ▸ (fr_upr _ _ (by simp)).tr (fr_upd _ _ _ (by simp))
  obtain ⟨iv2, b1, b2, b3, b4, b5, b6⟩ := c_act X im lw tl lv1 (f := A.1.1) ho.1.1 (n := nP A.1.1) (t := t) (M := pc6 td) (l := lawOf A.1) (told := nI td) p1 hk.np.1 ht p6 (pc6 td) 0 (by omega) (d + 13 - pc6 td) ivg (fun _ => 0) 0 td none ⟨g21, fun b hb => by cases hb⟩ g23 (by rw [g25]; exact a4) (fun i hi => by omega) (fun i hi => by omega) htd rfl (fun j hj => by rw [bit_nI td (by omega) j (by omega)]; simp [tak]) (by omega) (fun b hb => by cases hb)
  rw [show d + 13 - pc6 td + 6 + pc6 td = d + 19 by omega] at b1
  have b1 : call X xT (d + 19) 146 [.inr (.inr (some 21)), .inl (nI t), .inl (nI td), .inl (nI 0), .inl (nI 0)] (SS im lw tl, ivg, lv1) = some (none, (SS im lw tl, iv2, lv1)) := b1
  have b2 : actI (pc6 td) (bst none (showL A t td)) iv2 := b2
  rw [tr144, a1, sg144_3, if_pos (nI_le (by omega) (by omega)), obj_ok (show (SS im lw tl)[1]? = some (9, 6, [some 2, some 4, some 6, some 7, none, none]) from rfl) rfl (by show 0 < 6; omega)]
  show ∃ iv' lv', bV (call X xT (d + 19) 109 [.inr (.inr (some 22)), .inr (.inr (some 2))] (SS im lw tl, iv1, lv1)) _ = _ ∧ _
  rw [c_sccopy (d := d + 18) iv1 lv1 (show (SS im lw tl)[22]? = some (7, 1, [some 23]) from rfl) (show (SS im lw tl)[2]? = some (7, 1, [some 3]) from rfl) rfl rfl, bV_some, sg144_44, hg, b1, bV_some, sg144_62, b2.1]
  refine ⟨iv2, lv1, ?_, ((a2.mo (by simp)).tr (gf.mo (by simp))).tr (b3.mo (by simp)), a3, b2.2⟩
  cases hb : bst none (showL A t td) with
  | none => rw [if_pos (show sB none = nI 7 from rfl)]; rfl
  | some b =>
    have b6 := (b2.2 b hb).1
    rw [if_neg (show ¬ sB (some b) = nI 7 from fun e => by
      have e : nI b.1 = nI 7 := e
      have := nI_inj8 b.1 (by omega) 7 (by omega) e
      omega)]
    rfl
