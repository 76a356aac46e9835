/-! seats: the reference's search -/
def bI0 (o : Option Lf) : Int32 := match o with
  | none => nI 100000000
  | some b => nI b.1
def rowK (n : Nat) (g : Sc) (o : Option Lf) : Prop := ∀ b, o = some b → b.1 ≤ 6 ∧ ∀ i, i < n → g i = b.2 i
theorem bI0_le {o : Option Lf} {n c : Nat} {g : Sc} (h : rowK n g o) (hc : c ≤ 6) (r : Sc) : (bI0 o ≤ nI c ∧ bst1 o (c, r) = o) ∨ (¬ bI0 o ≤ nI c ∧ bst1 o (c, r) = some (c, r)) := by
  cases o with
  | none => exact Or.inr ⟨nI_ge (by omega) (by omega), rfl⟩
  | some b =>
    have := (h b rfl).1
    by_cases e : c < b.1
    · exact Or.inr ⟨nI_ge e (by omega), if_pos e⟩
    · exact Or.inl ⟨nI_le (by omega) (by omega), if_neg e⟩
/-- the row is kept -/
theorem m_seat_cp (X : XE) (cl : XCl) (im lw : List (Option Nat)) (tl : List XC) (lv : Nat → Nat → Int64) {n c : Nat} (hn : n ≤ 6) {v2 : Int32} (hb : ¬ v2 ≤ nI c) : ∀ (k i : Nat) (iv : Nat → Nat → Int32), i + k = n → iv 73 n = nI c → ∃ iv', run X cl false 1 xc288 60 [some (.inr (.inr (some 46))), some (.inl (nI n)), some (.inl v2), some (.inl (nI n)), some (.inl (nI i))] [] (SS im lw tl, iv, lv) = run X cl false 1 xc288 27 [some (.inr (.inr (some 46))), some (.inl (nI n)), some (.inl (nI c)), some (.inl (nI n + (-1))), some (.inl (nI n))] [] (SS im lw tl, iv', lv) ∧ fr [72] iv iv' ∧ ∀ q, iv' 72 q = if i ≤ q ∧ q < n then iv 69 q else iv 72 q := by
  intro k
  induction k with
  | zero =>
    intro i iv hi h73
    have : i = n := by omega
    subst this
    rw [sg288_60, if_pos (nI_le (by omega) (by omega)), if_pos rfl, if_pos (inb_nI (by omega) (by omega)), nI_clamp (by omega), h73, if_neg hb, if_pos (inb_nI (by omega) (by omega))]
    exact ⟨iv, rfl, fun _ _ => rfl, fun q => by rw [if_neg (by omega)]⟩
  | succ k ih =>
    intro i iv hi h73
    obtain ⟨iv', a1, a2, a3⟩ := ih (i + 1) (upd2 iv 72 i (iv 69 i)) (by omega) (by rw [upd2_off _ _ _ _ (by decide)]; exact h73)
    refine ⟨iv', ?_, (fr_upd _ _ _ (by simp)).tr a2, fun q => ?_⟩
    · rw [sg288_60, if_neg (nI_ge (by omega) (by omega)), if_pos rfl, if_pos (inb_nI (by omega) (by omega)), nI_clamp (by omega), h73, if_neg hb, if_pos (inb_nI (by omega) (by omega)), if_pos (inb_nI (by omega) (by omega)), nI_clamp (by omega), nI_add]
      exact a1
    · rw [a3 q, upd2_off _ _ _ _ (by decide)]
      by_cases e : q = i
      · subst e; rw [if_neg (by omega), if_pos (by omega), upd2_self]
      · rw [upd2_ne _ _ _ _ (fun z => e z.2)]
        by_cases e2 : i ≤ q ∧ q < n
        · rw [if_pos e2, if_pos (by omega)]
        · rw [if_neg e2, if_neg (by omega)]
/-- what the search from place p on leaves -/
def seatR (X : XE) (d : Nat) (im lw : List (Option Nat)) (tl : List XC) (lv : Nat → Nat → Int64) (n p : Nat) (iv : Nat → Nat → Int32) (o : Option Lf) (T : Option XR) : Prop := ∃ iv' w4, T = run X (call X xT (d + 2)) false 1 xc288 27 [some (.inr (.inr (some 46))), some (.inl (nI n)), some (.inl (bI0 o)), some (.inl (nI p + (-1))), w4] [] (SS im lw tl, iv', lv) ∧ fr [69, 72, 73] iv iv' ∧ (∀ i, i < p → iv' 69 i = iv 69 i) ∧ (∀ i, i ≤ p → iv' 73 i = iv 73 i) ∧ rowK n (iv' 72) o
theorem m_seat (X : XE) (d : Nat) (im lw : List (Option Nat)) (tl : List XC) (lv : Nat → Nat → Int64) {f fe : Sc} {n : Nat} (hn : n ≤ 6) : ∀ (m p : Nat), p + m = n → ∀ (iv : Nat → Nat → Int32) (r : Sc) (c : Nat) (o : Option Lf) (w4 : Option XV), iv 69 p = -1 → iv 73 p = nI c → c ≤ p → (∀ i, i < p → iv 69 i = r i) → (∀ i, i < p → ∃ a, a < 8 ∧ r i = nI a) → (∀ q, q < 6 → iv 48 (20 + q) = f (17 + q)) → (∀ q, q < 6 → iv 48 (62 + q) = fe q) → rowK n (iv 72) o → seatR X d im lw tl lv n p iv (bst o (lev 8 (seatS f fe) m p r c)) (run X (call X xT (d + 2)) false 1 xc288 27 [some (.inr (.inr (some 46))), some (.inl (nI n)), some (.inl (bI0 o)), some (.inl (nI p)), w4] [] (SS im lw tl, iv, lv)) := by
  intro m
  induction m with
  | zero =>
    intro p hp iv r c o w4 h69 h73 hc hr hv hf hfe ho
    have : p = n := by omega
    subst this
    show seatR X d im lw tl lv p p iv (bst1 o (c, r)) _
    rw [sg288_27, if_neg (nI_pos (by omega)), if_pos (inb_nI (by omega) (by omega)), if_pos (inb_nI (by omega) (by omega)), if_pos rfl, nI_clamp (by omega)]
    have off : ∀ a, a ≠ 69 → (upd2 iv 69 p (iv 69 p + nI 1)) a = iv a := fun a ha => upd2_off _ _ _ _ ha
    have h73' : (upd2 iv 69 p (iv 69 p + nI 1)) 73 p = nI c := by rw [off 73 (by decide)]; exact h73
    have r69 : ∀ i, i < p → (upd2 iv 69 p (iv 69 p + nI 1)) 69 i = iv 69 i := fun i hi => upd2_ne _ _ _ _ (by omega)
    rcases bI0_le ho (show c ≤ 6 by omega) r with ⟨b1, b2⟩ | ⟨b1, b2⟩
    · rw [b2]
      refine ⟨upd2 iv 69 p (iv 69 p + nI 1), some (.inl (nI 0)), ?_, fr_upd _ _ _ (by simp), r69, fun i _ => by rw [off 73 (by decide)], by rw [off 72 (by decide)]; exact ho⟩
      by_cases c0 : p = 0
      · subst c0
        rw [sg288_60, if_pos (nI_le (by omega) (by omega)), if_pos rfl, if_pos (inb_nI (by omega) (by omega)), nI_clamp (by omega), h73', if_pos b1]
      · rw [sg288_60, if_neg (nI_ge (by omega) (by omega)), if_pos rfl, if_pos (inb_nI (by omega) (by omega)), nI_clamp (by omega), h73', if_pos b1, if_pos rfl, if_pos (inb_nI (by omega) (by omega)), if_pos b1]
    · rw [b2]
      obtain ⟨iv', a1, a2, a3⟩ := m_seat_cp X (call X xT (d + 2)) im lw tl lv (by omega) b1 p 0 (upd2 iv 69 p (iv 69 p + nI 1)) (by omega) h73'
      refine ⟨iv', _, a1, (fr_upd _ _ _ (by simp)).tr (a2.mo (by simp)), fun i hi => by rw [a2 69 (by decide)]; exact r69 i hi, fun i _ => by rw [a2 73 (by decide), off 73 (by decide)], fun b hb => ?_⟩
      injection hb with hb
      subst hb
      exact ⟨by omega, fun i hi => by rw [a3 i, if_pos (by omega), r69 i hi]; exact hr i hi⟩
  | succ m ih =>
    intro p hp iv r c o w4 h69 h73 hc hr hv hf hfe ho
    have loop : ∀ (k j : Nat), j + k = 8 → ∀ (iv : Nat → Nat → Int32) (o : Option Lf) (w4 : Option XV), iv 69 p = nI j - nI 1 → iv 73 p = nI c → (∀ i, i < p → iv 69 i = r i) → (∀ q, q < 6 → iv 48 (20 + q) = f (17 + q)) → (∀ q, q < 6 → iv 48 (62 + q) = fe q) → rowK n (iv 72) o → seatR X d im lw tl lv n p iv (bst o (levI (lev 8 (seatS f fe) m (p + 1)) (seatS f fe p) p r c k j)) (run X (call X xT (d + 2)) false 1 xc288 27 [some (.inr (.inr (some 46))), some (.inl (nI n)), some (.inl (bI0 o)), some (.inl (nI p)), w4] [] (SS im lw tl, iv, lv)) := by
      intro k
      induction k with
      | zero =>
        intro j hj iv o w4 h69 h73 hr hf hfe ho
        have j8 : j = 8 := by omega
        subst j8
        have pn : ¬ nI p = nI n := fun e => by have := congrArg Int32.toNatClampNeg e; rw [nI_clamp (by omega), nI_clamp (by omega)] at this; omega
        rw [sg288_27, if_neg (nI_pos (by omega)), if_pos (inb_nI (by omega) (by omega)), if_pos (inb_nI (by omega) (by omega)), if_neg pn, if_pos (inb_nI (by omega) (by omega)), nI_clamp (by omega), upd2_self, h69, if_neg (by decide), sg288_60, if_neg (nI_ge (by omega) (by omega)), if_neg pn, if_neg pn]
        exact ⟨_, _, rfl, fr_upd _ _ _ (by simp), fun i hi => upd2_ne _ _ _ _ (by omega), fun i _ => by rw [upd2_off _ _ _ _ (by decide)], by rw [upd2_off _ _ _ _ (by decide)]; exact ho⟩
      | succ k ik =>
        intro j hj iv o w4 h69 h73 hr hf hfe ho
        have pn : ¬ nI p = nI n := fun e => by have := congrArg Int32.toNatClampNeg e; rw [nI_clamp (by omega), nI_clamp (by omega)] at this; omega
        have ej : nI j - nI 1 + nI 1 = nI j := Int32.sub_add_cancel _ _
        rw [sg288_27, if_neg (nI_pos (by omega)), if_pos (inb_nI (by omega) (by omega)), if_pos (inb_nI (by omega) (by omega)), if_neg pn, if_pos (inb_nI (by omega) (by omega)), nI_clamp (by omega), upd2_self, h69, ej, if_pos (nI_lt (by omega) (by omega)), tr289]
        have off : ∀ a, a ≠ 69 → (upd2 iv 69 p (nI j)) a = iv a := fun a ha => upd2_off _ _ _ _ ha
        have r69 : ∀ i, i < p → (upd2 iv 69 p (nI j)) 69 i = r i := fun i hi => by rw [upd2_ne _ _ _ _ (by omega)]; exact hr i hi
        have fit := m_fits X d im lw tl (upd2 iv 69 p (nI j)) lv (p := p) (j := j) (x := fe p) (r := r) (by omega) (by omega) (by rw [upd2_self]) (by rw [off 48 (by decide)]; exact hfe p (by omega)) r69 hv p 0 true none none (by omega)
        rw [show (nI 1 : Int32) = b2i true from rfl, fit, bI_some, sg288_138, Bool.true_and, b2i_ite]
        simp only [levI]
        rw [bst_app]
        by_cases cb : bad (fe p) r j p 0 = true
        · rw [cb, if_neg (by decide), show seatS f fe p j r = none from if_pos (bad_is.mp cb)]
          obtain ⟨iv1, w1, a1, a2, a3, a4, a5⟩ := ik (j + 1) (by omega) (upd2 iv 69 p (nI j)) o w4 (by rw [upd2_self, ← nI_add]; exact (Int32.add_sub_cancel _ _).symm) (by rw [off 73 (by decide)]; exact h73) r69 (by rw [off 48 (by decide)]; exact hf) (by rw [off 48 (by decide)]; exact hfe) (by rw [off 72 (by decide)]; exact ho)
          exact ⟨iv1, w1, a1, (fr_upd _ _ _ (by simp)).tr a2, fun i hi => by rw [a3 i hi, r69 i hi, hr i hi], fun i hi => by rw [a4 i hi, off 73 (by decide)], a5⟩
        · have hs : seatS f fe p j r = some (if nI j = f (17 + p) then 0 else 1) := if_neg (fun e => cb (bad_is.mpr e))
          rw [Bool.eq_false_iff.mpr cb, if_pos (by rfl), if_pos (inb_nI (by omega) (by omega)), if_pos (inb_nI (by omega) (by omega)), nI_add, if_pos (inb_nI (by omega) (by omega)), nI_clamp (by omega), nI_clamp (by omega), upd2_self, off 48 (by decide), hf p (by omega), off 73 (by decide), h73, nI_add, if_pos (inb_nI (by omega) (by omega)), nI_clamp (by omega), hs]
          -- both costs alike
          have go : ∀ x, x ≤ 1 → seatR X d im lw tl lv n p iv (bst (bst o (lev 8 (seatS f fe) m (p + 1) (pu r p (nI j)) (c + x))) (levI (lev 8 (seatS f fe) m (p + 1)) (seatS f fe p) p r c k (j + 1))) (run X (call X xT (d + 2)) false 1 xc288 27 [some (.inr (.inr (some 46))), some (.inl (nI n)), some (.inl (bI0 o)), some (.inl (nI (p + 1))), w4] [] (SS im lw tl, upd2 (upd2 (upd2 iv 69 p (nI j)) 73 (p + 1) (nI (c + x))) 69 (p + 1) (-1), lv)) := by
            intro x hx
            have z : ∀ a, a ≠ 69 → a ≠ 73 → (upd2 (upd2 (upd2 iv 69 p (nI j)) 73 (p + 1) (nI (c + x))) 69 (p + 1) (-1)) a = iv a := fun a h1 h2 => by rw [upd2_off _ _ _ _ h1, upd2_off _ _ _ _ h2, upd2_off _ _ _ _ h1]
            have z69 : ∀ i, i < p + 1 → (upd2 (upd2 (upd2 iv 69 p (nI j)) 73 (p + 1) (nI (c + x))) 69 (p + 1) (-1)) 69 i = pu r p (nI j) i := fun i hi => by
              rw [upd2_ne _ _ _ _ (by omega), upd2_off _ _ _ _ (by decide)]
              by_cases e : i = p
              · subst e; rw [upd2_self, pu_s]
              · rw [r69 i (by omega), pu_n _ _ _ e]
            have z73 : ∀ i, i ≤ p → (upd2 (upd2 (upd2 iv 69 p (nI j)) 73 (p + 1) (nI (c + x))) 69 (p + 1) (-1)) 73 i = iv 73 i := fun i hi => by
              rw [upd2_off _ _ _ _ (by decide), upd2_ne _ _ _ _ (by omega), off 73 (by decide)]
            obtain ⟨iv1, w1, a1, a2, a3, a4, a5⟩ := ih (p + 1) (by omega) (upd2 (upd2 (upd2 iv 69 p (nI j)) 73 (p + 1) (nI (c + x))) 69 (p + 1) (-1)) (pu r p (nI j)) (c + x) o w4 (by rw [upd2_self]) (by rw [upd2_off _ _ _ _ (by decide), upd2_self]) (by omega) z69 (fun i hi => by
              by_cases e : i = p
              · subst e; exact ⟨j, by omega, pu_s _ _ _⟩
              · rw [pu_n _ _ _ e]; exact hv i (by omega)) (by rw [z 48 (by decide) (by decide)]; exact hf) (by rw [z 48 (by decide) (by decide)]; exact hfe) (by rw [z 72 (by decide) (by decide)]; exact ho)
            have ep : nI (p + 1) + (-1) = nI p := by rw [← nI_add, Int32.add_assoc, show (nI 1 : Int32) + (-1) = 0 by decide, Int32.add_zero]
            rw [ep] at a1
            rw [a1]
            have q48 : iv1 48 = iv 48 := by rw [a2 48 (by decide), z 48 (by decide) (by decide)]
            obtain ⟨iv2, w2, b1, b2, b3, b4, b5⟩ := ik (j + 1) (by omega) iv1 (bst o (lev 8 (seatS f fe) m (p + 1) (pu r p (nI j)) (c + x))) w1 (by rw [a3 p (by omega), z69 p (by omega), pu_s, ← nI_add]; exact (Int32.add_sub_cancel _ _).symm) (by rw [a4 p (by omega), z73 p (by omega)]; exact h73) (fun i hi => by rw [a3 i (by omega), z69 i (by omega), pu_n _ _ _ (by omega)]) (by rw [q48]; exact hf) (by rw [q48]; exact hfe) a5
            refine ⟨iv2, w2, b1, (((fr_upd _ _ _ (by simp)).tr ((fr_upd _ _ _ (by simp)).tr (fr_upd _ _ _ (by simp)))).tr a2).tr b2, fun i hi => ?_, fun i hi => ?_, b5⟩
            · rw [b3 i hi, a3 i (by omega), z69 i (by omega), pu_n _ _ _ (by omega), hr i hi]
            · rw [b4 i hi, a4 i (by omega), z73 i hi]
          by_cases ce : nI j = f (17 + p)
          · rw [if_pos ce, if_pos ce, if_pos (inb_nI (by omega) (by omega)), nI_add]; exact go 0 (by omega)
          · rw [if_neg ce, if_neg ce, if_pos (inb_nI (by omega) (by omega)), if_pos (inb_nI (by omega) (by omega)), nI_add]; exact go 1 (by omega)
    exact loop 8 0 (by omega) iv o w4 (by rw [h69]; decide) h73 hr hf hfe ho
theorem in_nV (x : Int32) {n : Nat} (hn : n < 2 ^ 31) : decide (lN 0 ≤ x.toInt64 ∧ x.toInt64 ≤ (nI n).toInt64) = inV x (nI n) := by rw [nI_l hn]; exact in_inV x hn
theorem M_seats (x : Int32) : MSpec 287 [.inl x] (sp_seats x) := by
  intro X d im lw tl iv lv A h ho
  have h0 := h.thr (nI 0)
  obtain ⟨p0, p1, t0, t1, hk, he, hk2, h20⟩ := mfacts h0 ho
  rw [tr287]
  have p0' : iv 48 0 = nI (nP A.1.1) := by rw [upd2_off _ _ _ _ (by decide)] at p0; exact p0
  generalize hg : upd2 iv 46 0 (nI 0) = ivz at h0 p0 t0 he hk2 h20
  have o0 : outI iv ivz := hg ▸ out0 iv
  rw [p0', m_in X (d + 38), bI_some, sg287_18, b2i_ite, in_nV x (by omega)]
  unfold sp_seats
  cases hx : inV x (nI (nP A.1.1))
  · rw [if_neg (by decide)]
    exact ⟨ivz, lv, rfl, h0, o0⟩
  rw [if_pos rfl]
  obtain ⟨n, hn, rfl⟩ := inV_of (by omega) hx
  have z : ∀ a, a ≠ 69 → a ≠ 73 → (upd2 (upd2 ivz 69 0 (-1)) 73 0 (nI 0)) a = ivz a := fun a h1 h2 => by rw [upd2_off _ _ _ _ h2, upd2_off _ _ _ _ h1]
  obtain ⟨iv1, w1, a1, a2, a3, a4, a5⟩ := m_seat X (d + 36) im lw tl lv (f := A.1.1) (fe := A.1.2.2.1) p1 (nP A.1.1) 0 (by omega) (upd2 (upd2 ivz 69 0 (-1)) 73 0 (nI 0)) (fun _ => 0) 0 none none (by rw [upd2_off _ _ _ _ (by decide), upd2_self]) (by rw [upd2_self]) (by omega) (fun i hi => by omega) (fun i hi => by omega) (fun q hq => by
    rw [z 48 (by decide) (by decide), he (17 + q) (by omega)]; unfold fM; rw [mx_b hq]) (fun q hq => by
    rw [z 48 (by decide) (by decide)]; exact h0.1.2.2.2.1 q hq) (fun b hb => by cases hb)
  have a1 : run X (call X xT (d + 38)) false 1 xc288 27 [some (.inr (.inr (some 46))), some (.inl (nI (nP A.1.1))), some (.inl (nI 100000000)), some (.inl (nI 0)), none] [] (SS im lw tl, upd2 (upd2 ivz 69 0 (-1)) 73 0 (nI 0), lv) = run X (call X xT (d + 38)) false 1 xc288 27 [some (.inr (.inr (some 46))), some (.inl (nI (nP A.1.1))), some (.inl (bI0 (bst none (seatL A)))), some (.inl (nI 0 + (-1))), w1] [] (SS im lw tl, iv1, lv) := a1
  have a5 : rowK (nP A.1.1) (iv1 72) (bst none (seatL A)) := a5
  have f1 : fr [69, 72, 73] ivz iv1 := ((fr_upd _ _ _ (by simp)).tr (fr_upd _ _ _ (by simp))).tr a2
  have h1 : RelM A iv1 lv := h0.fr (fun a k q => by rw [f1 a (by rcases q with q | ⟨q, _⟩ <;> simp at q ⊢ <;> omega)]) h0.c
  rw [tr288, p0, a1, sg288_27, if_pos (by decide), bI_some, sg287_27]
  refine ⟨iv1, lv, ?_, h1, o0.tr (f1.out (by simp))⟩
  cases hb : bst none (seatL A) with
  | none => rw [if_pos (show bI0 none = nI 100000000 from rfl)]; rfl
  | some b =>
    obtain ⟨b6, br⟩ := a5 b hb
    have bn : bstV (some b) (nI n) = if nI n = 0 then nI b.1 else b.2 (nI n - nI 1).toNatClampNeg := rfl
    have ne : ¬ bI0 (some b) = nI 100000000 := fun e => by
      have e : nI b.1 = nI 100000000 := e
      have := congrArg Int32.toNatClampNeg e
      rw [nI_clamp (by omega), nI_clamp (by omega)] at this; omega
    rw [if_neg ne]
    simp only [if_true]
    rw [bn]
    by_cases c : n = 0
    · subst c; rw [if_pos (by decide), if_pos (by decide)]; rfl
    · have z : ¬ nI n = 0 := fun e => c (by have := congrArg Int32.toNatClampNeg e; rw [nI_clamp (by omega)] at this; exact this)
      rw [if_neg z, if_neg z, pk_sub (by omega), if_pos (inb_nI (by omega) (by omega)), nI_clamp (by omega), br (n - 1) (by omega)]
theorem S_seats (x : Int32) : stepOK 153 287 [.inl x] := step_of (C_seats x) (M_seats x) (fun A h => h)
