/-! the reference's reading: parts -/
def st0 (q : Bool) (iv : Nat → Nat → Int32) (C P : Cd) (o c : Nat) : Prop := iv 46 19 = nI 0 ∧ iv 46 18 = -1 ∧ iv 46 20 = b2i q ∧ cdM iv C ∧ iv 46 23 = nI C.length ∧ iv 46 29 = nI P.length ∧ plM iv P ∧ iv 46 30 = nI o ∧ iv 46 26 = nI c
def stM (q : Bool) (b : Nat → Nat) (n : Nat) (iv : Nat → Nat → Int32) (lv : Nat → Nat → Int64) (i : Nat) (C P : Cd) (o c : Nat) : Prop := lexM b n i iv lv ∧ st0 q iv C P o c ∧ pInv (ntF b n) i C P o c ∧ constM lv
def stBad (b : Nat → Nat) (n : Nat) (iv : Nat → Nat → Int32) (e : Nat) : Prop := iv 46 19 = nI 1 ∧ iv 46 18 = nI (plF b n e) ∧ ∃ C P, cpM iv C P
def frX (iv iv' : Nat → Nat → Int32) : Prop := ∀ a k, ¬ (a = 57 ∨ a = 58 ∨ a = 59 ∨ a = 60 ∨ (a = 46 ∧ (k = 14 ∨ k = 15 ∨ k = 16 ∨ k = 18 ∨ k = 19 ∨ k = 23 ∨ k = 26 ∨ k = 29 ∨ k = 30))) → iv' a k = iv a k
theorem frX.rf {iv : Nat → Nat → Int32} : frX iv iv := fun _ _ _ => rfl
theorem frX.tr {a b c : Nat → Nat → Int32} (h : frX a b) (h2 : frX b c) : frX a c := fun x k hk => (h2 x k hk).trans (h x k hk)
theorem frN.X {iv iv' : Nat → Nat → Int32} (h : frN iv iv') : frX iv iv' := fun a k hk => h a k (by omega)
theorem frP.X {iv iv' : Nat → Nat → Int32} (h : frP iv iv') : frX iv iv' := fun a k hk => h a k (by omega)
theorem frX_u (iv : Nat → Nat → Int32) {k : Nat} (v : Int32) (hk : k = 14 ∨ k = 15 ∨ k = 16 ∨ k = 18 ∨ k = 19 ∨ k = 23 ∨ k = 26 ∨ k = 29 ∨ k = 30) : frX iv (upd2 iv 46 k v) := fun a j hj => upd2_ne _ _ _ _ (by omega)
theorem frO.rf {lv : Nat → Nat → Int64} : frO lv lv := fun _ _ _ => rfl
theorem frO.tr {a b c : Nat → Nat → Int64} (h : frO a b) (h2 : frO b c) : frO a c := fun x k hk => (h2 x k hk).trans (h x k hk)
theorem frO.c {lv lv' : Nat → Nat → Int64} (h : frO lv lv') (hc : constM lv) : constM lv' := by
  obtain ⟨h1, h2, h3, h4⟩ := hc
  exact ⟨fun j hj => by rw [h 61 j (by omega)]; exact h1 j hj, fun j hj => by rw [h 62 j (by omega)]; exact h2 j hj, fun j hj => by rw [h 63 j (by omega)]; exact h3 j hj, fun j hj => by rw [h 76 j (by omega)]; exact h4 j hj⟩
theorem lexM_P {b : Nat → Nat} {n i : Nat} {iv iv' : Nat → Nat → Int32} {lv : Nat → Nat → Int64} (h : lexM b n i iv lv) (hf : ∀ a k, (a = 55 ∨ (a = 46 ∧ (k = 13 ∨ k = 14 ∨ k = 15 ∨ k = 16))) → iv' a k = iv a k) : lexM b n i iv' lv := by
  obtain ⟨⟨t1, t2, t3, t4⟩, h2, h3, h4, h5⟩ := h
  exact ⟨⟨by rw [hf 46 13 (by omega)]; exact t1, t2, fun j hj => by rw [hf 55 j (by omega)]; exact t3 j hj, t4⟩, by rw [hf 46 14 (by omega)]; exact h2, by rw [hf 46 15 (by omega)]; exact h3, by rw [hf 46 16 (by omega)]; exact h4, h5⟩
theorem st0_N {q : Bool} {iv iv' : Nat → Nat → Int32} {C P : Cd} {o c : Nat} (h : st0 q iv C P o c) (hf : frN iv iv') : st0 q iv' C P o c := by
  obtain ⟨h1, h2, h3, h4, h5, h6, h7, h8, h9⟩ := h
  refine ⟨by rw [hf 46 19 (by omega)]; exact h1, by rw [hf 46 18 (by omega)]; exact h2, by rw [hf 46 20 (by omega)]; exact h3, fun k x hx => ?_, by rw [hf 46 23 (by omega)]; exact h5, by rw [hf 46 29 (by omega)]; exact h6, ?_, by rw [hf 46 30 (by omega)]; exact h8, by rw [hf 46 26 (by omega)]; exact h9⟩
  · rw [hf 57 k (by omega), hf 58 k (by omega)]; exact h4 k x hx
  · exact plM_fr P.length (fun k _ => ⟨hf 59 k (by omega), hf 60 k (by omega)⟩) P (Nat.le_refl _) h7
theorem stM_cp {q : Bool} {b : Nat → Nat} {n : Nat} {iv : Nat → Nat → Int32} {lv : Nat → Nat → Int64} {i : Nat} {C P : Cd} {o c : Nat} (h : stM q b n iv lv i C P o c) : cpM iv C P := by
  obtain ⟨h1, h2, h3, h4⟩ := h
  have := (ntF_ok b n).2.2
  have := h1.1.2.1
  obtain ⟨p1, p2, p3, p4, p5, p6⟩ := h3
  exact ⟨h2.2.2.2.2.1, h2.2.2.2.2.2.1, h2.2.2.2.2.2.2.1, p4, by omega, by omega⟩
theorem stM_lt {q : Bool} {b : Nat → Nat} {n : Nat} {iv : Nat → Nat → Int32} {lv : Nat → Nat → Int64} {i : Nat} {C P : Cd} {o c : Nat} (h : stM q b n iv lv i C P o c) (ht : tkF b n i ≠ 9999) : i < ntF b n := by
  rcases Nat.lt_or_ge i (ntF b n) with z | z
  · exact z
  · exact absurd (by rw [show i = ntF b n by have := h.2.2.1.1; omega]; exact tkF_end b n) ht
theorem pInv_up {nt i : Nat} {C P : Cd} {o c : Nat} (h : pInv nt i C P o c) (hi : i < nt) : pInv nt (i + 1) C P o c := by
  obtain ⟨h1, h2, h3, h4, h5, h6⟩ := h
  exact ⟨by omega, by omega, by omega, h4, h5, h6⟩
section mq
variable {X : XE} {im lw : List (Option Nat)} {tl : List XC} {q : Bool} {b : Nat → Nat} {n : Nat}
def moP (im lw : List (Option Nat)) (tl : List XC) (q : Bool) (b : Nat → Nat) (n : Nat) (iv : Nat → Nat → Int32) (lv : Nat → Nat → Int64) (r : Nat ⊕ (Nat × Sp)) (T : Option XR) : Prop := match r with
  | .inl e => ∃ iv' lv' v, T = some (some (.inl v), (SS im lw tl, iv', lv')) ∧ stBad b n iv' e ∧ frX iv iv' ∧ frO lv lv'
  | .inr x => ∃ iv' lv', T = some (some (.inl (nI x.1)), (SS im lw tl, iv', lv')) ∧ stM q b n iv' lv' x.2.1 x.2.2.1 x.2.2.2.1 x.2.2.2.2.1 x.2.2.2.2.2 ∧ frX iv iv' ∧ frO lv lv'
theorem moP_tr {iv iv2 : Nat → Nat → Int32} {lv lv2 : Nat → Nat → Int64} {r : Nat ⊕ (Nat × Sp)} {T : Option XR} (h : moP im lw tl q b n iv2 lv2 r T) (h1 : frX iv iv2) (h2 : frO lv lv2) : moP im lw tl q b n iv lv r T := by
  cases r with
  | inl e => obtain ⟨a, c, v, g1, g2, g3, g4⟩ := h; exact ⟨a, c, v, g1, g2, h1.tr g3, h2.tr g4⟩
  | inr x => obtain ⟨a, c, g1, g2, g3, g4⟩ := h; exact ⟨a, c, g1, g2, h1.tr g3, h2.tr g4⟩
/-- the next token, the state else as it was -/
theorem m_nx (d : Nat) {iv : Nat → Nat → Int32} {lv : Nat → Nat → Int64} {i : Nat} {C P : Cd} {o c : Nat} (h : stM q b n iv lv i C P o c) (ht : tkF b n i ≠ 9999) : ∃ iv' lv', call X xT (d + 2) 238 [.inr (.inr (some 46))] (SS im lw tl, iv, lv) = some (none, (SS im lw tl, iv', lv')) ∧ stM q b n iv' lv' (i + 1) C P o c ∧ frX iv iv' ∧ frO lv lv' := by
  have hi := stM_lt h ht
  obtain ⟨h1, h2, h3, h4⟩ := h
  obtain ⟨iv', lv', a1, a2, a3, a4⟩ := m_next X im lw tl d h1 ht
  exact ⟨iv', lv', a1, ⟨a2, st0_N h2 a3, pInv_up h3 hi, a4.c h4⟩, a3.X, a4⟩
theorem m_must1 (d : Nat) {iv : Nat → Nat → Int32} {lv : Nat → Nat → Int64} {i : Nat} {C P : Cd} {o c : Nat} (h : stM q b n iv lv i C P o c) (ht : tkF b n i ≠ 9999) : ∃ iv' lv', call X xT (d + 3) 243 [.inr (.inr (some 46)), .inl (nI 1)] (SS im lw tl, iv, lv) = some (none, (SS im lw tl, iv', lv')) ∧ stM q b n iv' lv' (i + 1) C P o c ∧ frX iv iv' ∧ frO lv lv' := by
  obtain ⟨iv', lv', a1, a2, a3, a4⟩ := m_nx (X := X) (im := im) (lw := lw) (tl := tl) d h ht
  rw [tr243, h.2.1.1, if_pos n0z, if_neg n1z, if_pos n0z, a1, bV_some, sg243_35]
  exact ⟨iv', lv', rfl, a2, a3, a4⟩
theorem m_must0 (d : Nat) {iv : Nat → Nat → Int32} (lv : Nat → Nat → Int64) (h19 : iv 46 19 = nI 0) : call X xT (d + 1) 243 [.inr (.inr (some 46)), .inl (nI 0)] (SS im lw tl, iv, lv) = some (none, (SS im lw tl, upd2 (upd2 iv 46 19 (nI 1)) 46 18 (iv 46 14), lv)) := by
  rw [tr243, h19, if_pos n0z, if_pos n0z, sg243_35]
theorem stBad_of {iv : Nat → Nat → Int32} {lv : Nat → Nat → Int64} {i : Nat} {C P : Cd} {o c : Nat} (h : stM q b n iv lv i C P o c) : stBad b n (upd2 (upd2 iv 46 19 (nI 1)) 46 18 (iv 46 14)) i ∧ frX iv (upd2 (upd2 iv 46 19 (nI 1)) 46 18 (iv 46 14)) := by
  have hc := stM_cp h
  obtain ⟨c1, c2, c3, c4, c5, c6⟩ := hc
  refine ⟨⟨by rw [upd2_ne _ _ _ _ (by decide), upd2_self], by rw [upd2_self]; exact h.1.2.1, C, P, ?_, ?_, ?_, c4, c5, c6⟩, (frX_u _ _ (by omega)).tr (frX_u _ _ (by omega))⟩
  · rw [upd2_ne _ _ _ _ (by decide), upd2_ne _ _ _ _ (by decide)]; exact c1
  · rw [upd2_ne _ _ _ _ (by decide), upd2_ne _ _ _ _ (by decide)]; exact c2
  · exact plM_fr P.length (fun k _ => ⟨by rw [upd2_off _ _ _ _ (by decide), upd2_off _ _ _ _ (by decide)], by rw [upd2_off _ _ _ _ (by decide), upd2_off _ _ _ _ (by decide)]⟩) P (Nat.le_refl _) c3
/-- one more on the pile -/
theorem m_psh (d : Nat) {iv : Nat → Nat → Int32} {lv : Nat → Nat → Int64} {i : Nat} {C P : Cd} {o c x y : Nat} (h1 : lexM b n i iv lv) (h2 : st0 q iv C P o c) (hc : cpM iv C P) (hi : pInv (ntF b n) i C ((x, y) :: P) o c) (h4 : constM lv) : ∃ iv', call X xT (d + 1) 246 [.inr (.inr (some 46)), .inl (nI x), .inl (nI y)] (SS im lw tl, iv, lv) = some (none, (SS im lw tl, iv', lv)) ∧ stM q b n iv' lv i C ((x, y) :: P) o c ∧ frX iv iv' := by
  have hn := (ntF_ok b n).2.2
  have hn4 := h1.1.2.1
  obtain ⟨p1, p2, p3, p4, p5, p6⟩ := hi
  rw [List.length_cons] at p3
  obtain ⟨q1, q2, q3, q4⟩ := p4 (x, y) (by simp)
  obtain ⟨iv', a1, a2, a3, a4, a5, a6⟩ := m_push X im lw tl d lv hc (x := x) (y := y) (by omega) q1 q2 q3 (fun z => by have := q4 z; omega) (by omega)
  obtain ⟨s1, s2, s3, s4, s5, s6, s7, s8, s9⟩ := h2
  refine ⟨iv', a1, ⟨lexM_P h1 (fun a k hk => a6 a k (by omega)), ⟨by rw [a6 46 19 (by omega)]; exact s1, by rw [a6 46 18 (by omega)]; exact s2, by rw [a6 46 20 (by omega)]; exact s3, a5 s4, a2, a3, a4, by rw [a6 46 30 (by omega)]; exact s8, by rw [a6 46 26 (by omega)]; exact s9⟩, ⟨p1, p2, by rw [List.length_cons]; exact p3, p4, p5, p6⟩, h4⟩, a6.X⟩
theorem m_open (d : Nat) {iv : Nat → Nat → Int32} {lv : Nat → Nat → Int64} {i : Nat} {C P : Cd} {o c x : Nat} (hx : x = 31 ∨ x = 32) (h : stM q b n iv lv i C P o c) (ht : tkF b n i ≠ 9999) : (o < 8 → ∃ iv' lv', call X xT (d + 4) 248 [.inr (.inr (some 46)), .inl (nI x)] (SS im lw tl, iv, lv) = some (none, (SS im lw tl, iv', lv')) ∧ stM q b n iv' lv' (i + 1) C ((x, 0) :: P) (o + 1) c ∧ frX iv iv' ∧ frO lv lv') ∧ (¬ o < 8 → ∃ iv', call X xT (d + 4) 248 [.inr (.inr (some 46)), .inl (nI x)] (SS im lw tl, iv, lv) = some (none, (SS im lw tl, iv', lv)) ∧ stBad b n iv' i ∧ frX iv iv') := by
  have ho : iv 46 30 = nI o := h.2.1.2.2.2.2.2.2.2.1
  have hol := h.2.2.1.2.2.2.2.1
  have hi := stM_lt h ht
  refine ⟨fun o8 => ?_, fun o8 => ?_⟩
  · obtain ⟨iv1, lv1, a1, a2, a3, a4⟩ := m_must1 (X := X) (im := im) (lw := lw) (tl := tl) d h ht
    rw [tr248, ho, if_neg (nI_ge o8 (by omega)), a1, bV_some, sg248_18, a2.2.1.1, if_pos n0z]
    have ho1 : iv1 46 30 = nI o := a2.2.1.2.2.2.2.2.2.2.1
    rw [ho1, nI_add]
    obtain ⟨l1, l2, l3, l4⟩ := a2
    obtain ⟨s1, s2, s3, s4, s5, s6, s7, s8, s9⟩ := l2
    have st : st0 q (upd2 iv1 46 30 (nI (o + 1))) C P (o + 1) c := by
      refine ⟨by rw [upd2_ne _ _ _ _ (by decide)]; exact s1, by rw [upd2_ne _ _ _ _ (by decide)]; exact s2, by rw [upd2_ne _ _ _ _ (by decide)]; exact s3, fun k z hz => ?_, by rw [upd2_ne _ _ _ _ (by decide)]; exact s5, by rw [upd2_ne _ _ _ _ (by decide)]; exact s6, plM_fr P.length (fun k _ => ⟨by rw [upd2_off _ _ _ _ (by decide)], by rw [upd2_off _ _ _ _ (by decide)]⟩) P (Nat.le_refl _) s7, by rw [upd2_self], by rw [upd2_ne _ _ _ _ (by decide)]; exact s9⟩
      rw [upd2_off _ _ _ _ (by decide), upd2_off _ _ _ _ (by decide)]; exact s4 k z hz
    have pi := pInv_push (o' := o + 1) (x := x) (y := 0) h.2.2.1 hi (by omega) (by omega) (by omega) (by omega) (by omega) (by omega)
    have cp : cpM (upd2 iv1 46 30 (nI (o + 1))) C P := by
      have := (ntF_ok b n).2.2
      have := h.1.1.2.1
      obtain ⟨p1, p2, p3, p4, p5, p6⟩ := h.2.2.1
      exact ⟨st.2.2.2.2.1, st.2.2.2.2.2.1, st.2.2.2.2.2.2.1, p4, by omega, by omega⟩
    obtain ⟨iv2, b1, b2, b3⟩ := m_psh (X := X) (im := im) (lw := lw) (tl := tl) (d + 2) (lexM_P l1 (fun a k hk => upd2_ne _ _ _ _ (by omega))) st cp pi l4
    rw [b1, bV_some, sg248_41]
    exact ⟨iv2, lv1, rfl, b2, (a3.tr (frX_u _ _ (by omega))).tr b3, a4⟩
  · obtain ⟨b1, b2⟩ := stBad_of h
    rw [tr248, ho, if_pos (nI_le (by omega) (by omega)), m_must0 (d + 2) lv h.2.1.1, bV_some, sg248_18, b1.1, if_neg n1z, sg248_41]
    exact ⟨_, rfl, b1, b2⟩
/-! which word of its own it is -/
def lC : List Nat := [3000, 3001, 3002, 3003, 3004, 3005, 3006, 3007, 3008, 3009]
def oC : List Nat := [3008, 3010, 3011, 3002, 3003, 3006, 3012]
def paV (cs : List Nat) (t : Nat) : Nat → Int32
  | 0 => -1
  | k + 1 => if t = cs.getD k 0 then nI (k + 1) else paV cs t k
theorem lC_k : ∀ j, j < 10 → hT (lC.getD j 0) = wK.getD j 0 ∧ ((2000 ≤ lC.getD j 0 ∧ lC.getD j 0 ≤ 2014) ∨ (3000 ≤ lC.getD j 0 ∧ lC.getD j 0 ≤ 3012)) := by decide +kernel
theorem oC_k : ∀ j, j < 7 → hT (oC.getD j 0) = oK.getD j 0 ∧ ((2000 ≤ oC.getD j 0 ∧ oC.getD j 0 ≤ 2014) ∨ (3000 ≤ oC.getD j 0 ∧ oC.getD j 0 ≤ 3012)) := by decide +kernel
theorem m_partAt (d : Nat) {iv : Nat → Nat → Int32} {lv : Nat → Nat → Int64} {i : Nat} (h : lexM b n i iv lv) (hc : constM lv) : call X xT (d + 2) 251 [.inr (.inr (some 46))] (SS im lw tl, iv, lv) = some (some (.inl (paV lC (tkF b n i) 10)), (SS im lw tl, iv, lv)) := by
  have loop : ∀ (k j : Nat), j + k = 10 → run X (call X xT (d + 1)) false 1 xc251 4 [some (.inr (.inr (some 46))), some (.inl (paV lC (tkF b n i) j)), some (.inl (nI j))] [] (SS im lw tl, iv, lv) = some (some (.inl (paV lC (tkF b n i) 10)), (SS im lw tl, iv, lv)) := by
    intro k
    induction k with
    | zero =>
      intro j hj
      have : j = 10 := by omega
      subst this
      rw [sg251_4, if_pos (nI_le (by omega) (by omega))]
    | succ k ih =>
      intro j hj
      obtain ⟨k1, k2⟩ := lC_k j (by omega)
      rw [sg251_4, if_neg (nI_ge (by omega) (by omega)), if_pos (inb_nI (by omega) (by omega)), nI_clamp (by omega), hc.1 j (by omega), ← k1, m_isW X im lw tl d h k2, bI_some, sg251_20, b2i_ite, nI_add]
      have nx := ih (j + 1) (by omega)
      have e : paV lC (tkF b n i) (j + 1) = if tkF b n i = lC.getD j 0 then nI (j + 1) else paV lC (tkF b n i) j := rfl
      rw [e] at nx
      by_cases q : tkF b n i = lC.getD j 0
      · rw [if_pos (decide_eq_true q)]; rw [if_pos q] at nx; exact nx
      · rw [if_neg (show ¬ decide (tkF b n i = lC.getD j 0) = true by rw [decide_eq_false q]; decide)]; rw [if_neg q] at nx; exact nx
  rw [tr251]
  exact loop 10 0 (by omega)
theorem m_ordAt (d : Nat) {iv : Nat → Nat → Int32} {lv : Nat → Nat → Int64} {i : Nat} (h : lexM b n i iv lv) (hc : constM lv) : call X xT (d + 2) 250 [.inr (.inr (some 46))] (SS im lw tl, iv, lv) = some (some (.inl (paV oC (tkF b n i) 7)), (SS im lw tl, iv, lv)) := by
  have loop : ∀ (k j : Nat), j + k = 7 → run X (call X xT (d + 1)) false 1 xc250 4 [some (.inr (.inr (some 46))), some (.inl (paV oC (tkF b n i) j)), some (.inl (nI j))] [] (SS im lw tl, iv, lv) = some (some (.inl (paV oC (tkF b n i) 7)), (SS im lw tl, iv, lv)) := by
    intro k
    induction k with
    | zero =>
      intro j hj
      have : j = 7 := by omega
      subst this
      rw [sg250_4, if_pos (nI_le (by omega) (by omega))]
    | succ k ih =>
      intro j hj
      obtain ⟨k1, k2⟩ := oC_k j (by omega)
      rw [sg250_4, if_neg (nI_ge (by omega) (by omega)), if_pos (inb_nI (by omega) (by omega)), nI_clamp (by omega), hc.2.1 j (by omega), ← k1, m_isW X im lw tl d h k2, bI_some, sg250_20, b2i_ite, nI_add]
      have nx := ih (j + 1) (by omega)
      have e : paV oC (tkF b n i) (j + 1) = if tkF b n i = oC.getD j 0 then nI (j + 1) else paV oC (tkF b n i) j := rfl
      rw [e] at nx
      by_cases q : tkF b n i = oC.getD j 0
      · rw [if_pos (decide_eq_true q)]; rw [if_pos q] at nx; exact nx
      · rw [if_neg (show ¬ decide (tkF b n i = oC.getD j 0) = true by rw [decide_eq_false q]; decide)]; rw [if_neg q] at nx; exact nx
  rw [tr250]
  exact loop 7 0 (by omega)
/-- its number, if it is one of them -/
def itN (q : Bool) (t : Nat) : Option Nat := if q = true then (if t = 3012 then some 7 else if t = 3006 then some 6 else if t = 3003 then some 5 else if t = 3002 then some 4 else if t = 3011 then some 3 else if t = 3010 then some 2 else if t = 3008 then some 1 else none) else (if 3000 ≤ t ∧ t ≤ 3009 then some (t - 2999) else none)
def itI (o : Option Nat) : Int32 := match o with
  | none => -1
  | some z => nI z
theorem itI_o (t : Nat) : paV oC t 7 = itI (itN true t) := by
  unfold itN itI
  rw [if_pos rfl]
  show (if t = 3012 then nI 7 else if t = 3006 then nI 6 else if t = 3003 then nI 5 else if t = 3002 then nI 4 else if t = 3011 then nI 3 else if t = 3010 then nI 2 else if t = 3008 then nI 1 else -1) = _
  repeat' split
  all_goals first
    | rfl
    | (rename_i h; cases h <;> rfl)
    | simp_all
theorem itI_l (t : Nat) : paV lC t 10 = itI (itN false t) := by
  unfold itN itI
  rw [if_neg (by decide)]
  show (if t = 3009 then nI 10 else if t = 3008 then nI 9 else if t = 3007 then nI 8 else if t = 3006 then nI 7 else if t = 3005 then nI 6 else if t = 3004 then nI 5 else if t = 3003 then nI 4 else if t = 3002 then nI 3 else if t = 3001 then nI 2 else if t = 3000 then nI 1 else -1) = _
  by_cases h : 3000 ≤ t ∧ t ≤ 3009
  · rw [if_pos h]
    have : t = 3000 ∨ t = 3001 ∨ t = 3002 ∨ t = 3003 ∨ t = 3004 ∨ t = 3005 ∨ t = 3006 ∨ t = 3007 ∨ t = 3008 ∨ t = 3009 := by omega
    rcases this with rfl | rfl | rfl | rfl | rfl | rfl | rfl | rfl | rfl | rfl <;> rfl
  · rw [if_neg h, if_neg (by omega), if_neg (by omega), if_neg (by omega), if_neg (by omega), if_neg (by omega), if_neg (by omega), if_neg (by omega), if_neg (by omega), if_neg (by omega), if_neg (by omega)]
end mq
