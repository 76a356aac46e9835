/-! governed: the class -/
def mkV (g : Nat → Bool) : Nat → Nat → Nat → Nat
  | 0, _, m => m
  | k + 1, t, m => mkV g k (t + 1) (if g t = true then m ||| 2 ^ t else m)
theorem or_lt {m t : Nat} (hm : m < 256) (ht : t < 8) : m ||| 2 ^ t < 256 := (tk_o m hm t ht).2
theorem mkV_lt (g : Nat → Bool) : ∀ k t m, t + k ≤ 8 → m < 256 → mkV g k t m < 256 := by
  intro k
  induction k with
  | zero => intro t m _ h; exact h
  | succ k ih =>
    intro t m ht h
    simp only [mkV]
    refine ih (t + 1) _ (by omega) ?_
    split
    · exact or_lt h (by omega)
    · exact h
theorem mkV_bit (g : Nat → Bool) : ∀ k t m s, (mkV g k t m).testBit s = (m.testBit s || (decide (t ≤ s ∧ s < t + k) && g s)) := by
  intro k
  induction k with
  | zero => intro t m s; simp only [mkV]; rw [decide_eq_false (by omega), Bool.false_and, Bool.or_false]
  | succ k ih =>
    intro t m s
    simp only [mkV]
    rw [ih (t + 1)]
    by_cases e : s = t
    · subst e
      rw [decide_eq_false (by omega), decide_eq_true (by omega), Bool.false_and, Bool.or_false, Bool.true_and]
      cases hg : g s
      · rw [if_neg (by decide), Bool.or_false]
      · rw [if_pos rfl, Nat.testBit_or, Nat.testBit_two_pow, decide_eq_true rfl]
    · have d : decide (t + 1 ≤ s ∧ s < t + 1 + k) = decide (t ≤ s ∧ s < t + (k + 1)) := by rw [decide_eq_decide]; omega
      rw [d]
      congr 1
      split
      · rw [Nat.testBit_or, Nat.testBit_two_pow, decide_eq_false (fun q => e q.symm), Bool.or_false]
      · rfl
theorem bit_nI : ∀ m, m < 256 → ∀ j, j < 8 → bitV (nI m) j = m.testBit j := by decide +kernel
theorem agC_f {iv iv' : Nat → Nat → Int32} (h : agC iv iv') : fr [18, 20] iv iv' := fun a ha => h a (by simp at ha; omega) (by simp at ha; omega)
theorem c_may_in (X : XE) (d : Nat) {im lw : List (Option Nat)} {tl : List XC} {f : Sc} {l : Lw} {nt : Nat} (hnt : nt ≤ 4) {q : Nat} (hq : q < 6) {r : Option Nat} (v1 : Option Nat) : ∀ (k t : Nat) (mk : Nat) (iv : Nat → Nat → Int32) (lv : Nat → Nat → Int64), t + k = nt → mk < 256 → iv 28 q = nI mk → eqS (iv 3) f → iv 3 1 = nI nt → (∀ iv', (∀ a, 79 ≤ a → iv' a = iv a) → lawT (SS im lw tl) iv' r l.1 l.2) → ∃ iv' lv' w5, run X (call X xT (d + 5)) false 1 xc173 56 [some (.inr (.inr (some 21))), some (.inr (.inr v1)), some (.inr (.inr (some 2))), some (.inr (.inr r)), some (.inl (nI q)), some (.inl (nI t))] [] (SS im lw tl, iv, lv) = run X (call X xT (d + 5)) false 1 xc173 29 [some (.inr (.inr (some 21))), some (.inr (.inr v1)), some (.inr (.inr (some 2))), some (.inr (.inr r)), some (.inl (nI (q + 1))), w5] [] (SS im lw tl, iv', lv') ∧ fr [18, 20, 28] iv iv' ∧ agL lv lv' ∧ iv' 28 q = nI (mkV (fun t => govM f l t q) k t mk) ∧ ∀ i, i ≠ q → iv' 28 i = iv 28 i := by
  intro k
  induction k with
  | zero =>
    intro t mk iv lv ht hm h28 he hnt1 hl
    rw [sg173_56, objR_ok (show (SS im lw tl)[2]? = some (7, 1, [some 3]) from rfl) rfl, c_tam0 (sc2 im lw tl), bI_some, sg173_62, hnt1, if_pos (nI_le (by omega) (by omega)), nI_add]
    exact ⟨iv, lv, _, rfl, fun _ _ => rfl, agL.rf, h28, fun _ _ => rfl⟩
  | succ k ih =>
    intro t mk iv lv ht hm h28 he hnt1 hl
    rw [sg173_56, objR_ok (show (SS im lw tl)[2]? = some (7, 1, [some 3]) from rfl) rfl, c_tam0 (sc2 im lw tl), bI_some, sg173_62, hnt1, if_neg (nI_ge (by omega) (by omega))]
    obtain ⟨iv1, lv1, g1, g2, g3⟩ := c_loyal X d im lw tl iv lv (sc2 im lw tl) (by decide) (hl iv (fun _ _ => rfl)).S (t := t) (p := q) (by omega) hq
    rw [loyV_eq he _ _ (by omega) hq] at g1
    rw [g1, bI_some, sg173_78, b2i_ite, nI_add]
    have e3 : ∀ iv2, fr [18, 20, 28] iv iv2 → eqS (iv2 3) f ∧ iv2 3 1 = nI nt ∧ ∀ iv', (∀ a, 79 ≤ a → iv' a = iv2 a) → lawT (SS im lw tl) iv' r l.1 l.2 := fun iv2 hf => by
      rw [hf 3 (by decide)]
      exact ⟨he, hnt1, fun iv' h' => hl iv' (fun a ha => by rw [h' a ha, hf a (by simp; omega)])⟩
    have f1 : fr [18, 20, 28] iv iv1 := (agC_f g2).mo (by simp)
    simp only [mkV]
    by_cases cl : loyV f l.1 l.2 t q = true
    · rw [if_pos cl]
      obtain ⟨iv2, lv2, k1, k2, k3⟩ := c_barred X (d + 1) im lw tl iv1 lv1 (sc2 im lw tl) (by decide) ((e3 iv1 f1).2.2 iv1 (fun _ _ => rfl)).S (t := t) (p := q) (by omega) hq
      rw [barV_eq (e3 iv1 f1).1 _ _ (by omega) hq] at k1
      rw [k1, bI_some, sg173_94, b2i_ite]
      have f2 : fr [18, 20, 28] iv iv2 := f1.tr ((agC_f k2).mo (by simp))
      have q28 : iv2 28 = iv 28 := by rw [agC_f k2 28 (by decide), agC_f g2 28 (by decide)]
      by_cases cb : barV f l.1 l.2 t q = true
      · have gm : govM f l t q = false := by unfold govM; rw [cl, cb]; rfl
        rw [if_pos cb, if_neg (by rw [gm]; decide), nI_add]
        obtain ⟨iv3, lv3, w5, m1, m2, m3, m4, m5⟩ := ih (t + 1) mk iv2 lv2 (by omega) hm (by rw [q28]; exact h28) (e3 iv2 f2).1 (e3 iv2 f2).2.1 (e3 iv2 f2).2.2
        exact ⟨iv3, lv3, w5, m1, f2.tr m2, (g3.tr k3).tr m3, m4, fun i hi => by rw [m5 i hi, q28]⟩
      · have gm : govM f l t q = true := by unfold govM; rw [cl, Bool.eq_false_iff.mpr cb]; rfl
        rw [if_neg cb, if_pos (inb_nI (by omega) (by omega)), if_pos (inb_nI (by omega) (by omega)), if_pos gm, nI_clamp (by omega), q28, h28, (tk_o mk hm t (by omega)).1, nI_add]
        have f3 : fr [18, 20, 28] iv (upd2 iv2 28 q (nI (mk ||| 2 ^ t))) := f2.tr (fr_upd _ _ _ (by simp))
        obtain ⟨iv3, lv3, w5, m1, m2, m3, m4, m5⟩ := ih (t + 1) (mk ||| 2 ^ t) (upd2 iv2 28 q (nI (mk ||| 2 ^ t))) lv2 (by omega) (or_lt hm (by omega)) (by rw [upd2_self]) (e3 _ f3).1 (e3 _ f3).2.1 (e3 _ f3).2.2
        exact ⟨iv3, lv3, w5, m1, f3.tr m2, (g3.tr k3).tr m3, m4, fun i hi => by rw [m5 i hi, upd2_ne _ _ _ _ (fun z => hi z.2), q28]⟩
    · have gm : govM f l t q = false := by unfold govM; rw [Bool.eq_false_iff.mpr cl]; rfl
      rw [if_neg cl, if_neg (by rw [gm]; decide)]
      obtain ⟨iv3, lv3, w5, m1, m2, m3, m4, m5⟩ := ih (t + 1) mk iv1 lv1 (by omega) hm (by rw [agC_f g2 28 (by decide)]; exact h28) (e3 iv1 f1).1 (e3 iv1 f1).2.1 (e3 iv1 f1).2.2
      exact ⟨iv3, lv3, w5, m1, f1.tr m2, g3.tr m3, m4, fun i hi => by rw [m5 i hi, agC_f g2 28 (by decide)]⟩
theorem c_mayR (X : XE) (d : Nat) {im lw : List (Option Nat)} {tl : List XC} {f : Sc} {l : Lw} {n nt : Nat} (hn : n ≤ 6) (hnt : nt ≤ 4) {r : Option Nat} (v1 : Option Nat) : ∀ (k q : Nat) (iv : Nat → Nat → Int32) (lv : Nat → Nat → Int64) (w5 : Option XV), q + k = n → iv 21 9 = nI n → eqS (iv 3) f → iv 3 1 = nI nt → (∀ iv', (∀ a, 79 ≤ a → iv' a = iv a) → lawT (SS im lw tl) iv' r l.1 l.2) → (∀ i, i < q → ∀ t, t < 4 → bitV (iv 28 i) t = (decide (t < nt) && govM f l t i)) → ∃ iv' lv' w5', run X (call X xT (d + 5)) false 1 xc173 29 [some (.inr (.inr (some 21))), some (.inr (.inr v1)), some (.inr (.inr (some 2))), some (.inr (.inr r)), some (.inl (nI q)), w5] [] (SS im lw tl, iv, lv) = bV (call X xT (d + 5) 174 [.inr (.inr (some 21)), .inl (nI 0), .inl (nI 0)] (SS im lw tl, upd2 iv' 21 8 (-1), lv')) (fun h1 => run X (call X xT (d + 5)) false 1 xc173 134 [some (.inr (.inr (some 21))), some (.inr (.inr v1)), some (.inr (.inr (some 2))), some (.inr (.inr r)), some (.inl (nI n)), w5'] [] h1) ∧ fr [18, 20, 28] iv iv' ∧ agL lv lv' ∧ ∀ i, i < n → ∀ t, t < 4 → bitV (iv' 28 i) t = (decide (t < nt) && govM f l t i) := by
  intro k
  induction k with
  | zero =>
    intro q iv lv w5 hq h9 he hnt1 hl hb
    have : q = n := by omega
    subst this
    rw [sg173_29, h9, if_pos (nI_le (by omega) (by omega))]
    exact ⟨iv, lv, w5, rfl, fun _ _ => rfl, agL.rf, hb⟩
  | succ k ih =>
    intro q iv lv w5 hq h9 he hnt1 hl hb
    rw [sg173_29, h9, if_neg (nI_ge (by omega) (by omega)), if_neg (nI_ge (by omega) (by omega)), if_pos (inb_nI (by omega) (by omega)), nI_clamp (by omega)]
    have off : ∀ a, a ≠ 28 → (upd2 iv 28 q (nI 0)) a = iv a := fun a ha => upd2_off _ _ _ _ ha
    obtain ⟨iv1, lv1, w1, a1, a2, a3, a4, a5⟩ := c_may_in X d (im := im) (lw := lw) (tl := tl) (f := f) (l := l) hnt (show q < 6 by omega) (r := r) v1 nt 0 0 (upd2 iv 28 q (nI 0)) lv (by omega) (by omega) (by rw [upd2_self]) (by rw [off 3 (by decide)]; exact he) (by rw [off 3 (by decide)]; exact hnt1) (fun iv' h' => hl iv' (fun a ha => by rw [h' a ha, off a (by omega)]))
    have f1 : fr [18, 20, 28] iv iv1 := (fr_upd _ _ _ (by simp)).tr a2
    obtain ⟨iv2, lv2, w2, b1, b2, b3, b4⟩ := ih (q + 1) iv1 lv1 w1 (by omega) (by rw [f1 21 (by decide)]; exact h9) (by rw [f1 3 (by decide)]; exact he) (by rw [f1 3 (by decide)]; exact hnt1) (fun iv' h' => hl iv' (fun a ha => by rw [h' a ha, f1 a (by simp; omega)])) (fun i hi t ht => by
      by_cases e : i = q
      · subst e
        rw [a4, bit_nI _ (mkV_lt _ _ _ _ (by omega) (by omega)) t (by omega), mkV_bit, Nat.zero_testBit, Bool.false_or]
        congr 1
        rw [decide_eq_decide]; omega
      · rw [a5 i e, upd2_ne _ _ _ _ (fun z => e z.2)]; exact hb i (by omega) t ht)
    rw [a1]
    exact ⟨iv2, lv2, w2, b1, f1.tr b2, a3.tr b3, b4⟩
def govL (A : St) : List Lf := lev (nT A.1.1 + 1) (govS A.1.1 (lawOf A.1) (nT A.1.1)) (nP A.1.1) 0 (fun _ => 0) 0
def govV (n nt : Nat) (o : Option Lf) (x : Int32) : Int32 := match o with
  | none => -1
  | some b => if x = 0 then nI (n - b.1) else cvR nt (b.2 (x - nI 1).toNatClampNeg)
def sp_gov (x : Int32) (A : St) : Int32 × St := (if inV x (nI (nP A.1.1)) = true then govV (nP A.1.1) (nT A.1.1) (bst none (govL A)) x else -1, A)
theorem c_fill29 (X : XE) (d : Nat) (im lw : List (Option Nat)) (tl : List XC) (iv : Nat → Nat → Int32) (lv : Nat → Nat → Int64) : ∃ iv', call X xT (d + 1) 171 [.inr (.inr (some 29)), .inl (nI 0)] (SS im lw tl, iv, lv) = some (none, (SS im lw tl, iv', lv)) ∧ fr [29] iv iv' ∧ ∀ i, i < 6 → iv' 29 i = nI 0 := by
  have loop : ∀ (k j : Nat) (iv : Nat → Nat → Int32), j + k = 6 → ∃ iv', run X (call X xT d) false 0 xc171 5 [some (.inr (.inr (some 29))), some (.inl (nI 0)), some (.inl (nI j)), some (.inl (nI 6))] [] (SS im lw tl, iv, lv) = some (none, (SS im lw tl, iv', lv)) ∧ fr [29] iv iv' ∧ ∀ i, iv' 29 i = if j ≤ i ∧ i < 6 then nI 0 else iv 29 i := by
    intro k
    induction k with
    | zero =>
      intro j iv hj
      rw [sg171_5, if_pos (nI_le (by omega) (by omega))]
      exact ⟨iv, rfl, fun _ _ => rfl, fun i => by rw [if_neg (by omega)]⟩
    | succ k ih =>
      intro j iv hj
      rw [sg171_5, if_neg (nI_ge (by omega) (by omega)), arr_ok (show (SS im lw tl)[29]? = some (50, 6, []) from rfl) rfl (inb_nI (show j < 6 by omega) (by omega)), nI_clamp (by omega), nI_add]
      obtain ⟨iv', a1, a2, a3⟩ := ih (j + 1) (upd2 iv 29 j (nI 0)) (by omega)
      refine ⟨iv', a1, (fr_upd _ _ _ (by simp)).tr a2, fun i => ?_⟩
      rw [a3 i]
      by_cases e : i = j
      · subst e; rw [if_neg (by omega), if_pos (by omega), upd2_self]
      · rw [upd2_ne _ _ _ _ (fun z => e z.2)]
        by_cases e2 : j ≤ i ∧ i < 6
        · rw [if_pos e2, if_pos (by omega)]
        · rw [if_neg e2, if_neg (by omega)]
  obtain ⟨iv', a1, a2, a3⟩ := loop 6 0 iv (by omega)
  rw [tr171, alen_ok X (by decide) (show (SS im lw tl)[29]? = some (50, 6, []) from rfl) (by show 50 ≤ 50; omega)]
  exact ⟨iv', a1, a2, fun i hi => by rw [a3 i, if_pos (by omega)]⟩
theorem C_gov (x : Int32) : CSpec 172 [.inl x] (sp_gov x) := by
  intro X hX d im lw tl iv lv A h ho
  obtain ⟨p0, p1, t0, t1, hk⟩ := cfacts h ho
  rw [tr172, c_prov0 (sc2 im lw tl), bI_some, sg172_11, p0, c_within X (d + 38), bI_some, sg172_14, b2i_ite]
  unfold sp_gov
  cases hx : inV x (nI (nP A.1.1))
  · rw [if_neg (by decide)]
    exact ⟨iv, lv, rfl, h, midI.rf, midL.rf⟩
  rw [if_pos rfl]
  obtain ⟨n, hn, rfl⟩ := inV_of (by omega) hx
  obtain ⟨r, r1, r2⟩ := c_force (X := X) (d := d + 36) (lv := lv) h ho
  obtain ⟨iv1, e1, e2, e3⟩ := c_fill29 X (d + 37) im lw tl (upd2 iv 21 9 (nI (nP A.1.1))) lv
  have f1 : fr [21, 29] iv iv1 := (fr_upd _ _ _ (by simp)).tr (e2.mo (by simp))
  have e173 : call X xT (d + 39) 173 [.inr (.inr (some 21)), .inr (.inr (some 1))] (SS im lw tl, iv, lv) = run X (call X xT (d + 38)) false 1 xc173 29 [some (.inr (.inr (some 21))), some (.inr (.inr (some 1))), some (.inr (.inr (some 2))), some (.inr (.inr r)), some (.inl (nI 0)), none] [] (SS im lw tl, iv1, lv) := by
    rw [tr173, obj_ok (show (SS im lw tl)[1]? = some (9, 6, [some 2, some 4, some 6, some 7, none, none]) from rfl) rfl (by show 0 < 6; omega), objR_ok (show (SS im lw tl)[1]? = some (9, 6, [some 2, some 4, some 6, some 7, none, none]) from rfl) rfl, r1, bR_some]
    show run X _ false 1 xc173 9 [some (.inr (.inr (some 21))), some (.inr (.inr (some 1))), some (.inr (.inr (some 2))), none, none, none] _ _ = _
    rw [sg173_9, objR_ok (show (SS im lw tl)[2]? = some (7, 1, [some 3]) from rfl) rfl, c_prov0 (sc2 im lw tl), bI_some, p0, sg173_15, e1, bV_some, sg173_26]
  obtain ⟨iv2, lv2, w2, a1, a2, a3, a4⟩ := c_mayR X (d + 33) (im := im) (lw := lw) (tl := tl) (f := A.1.1) (l := lawOf A.1) p1 t1 (r := r) (some 1) (nP A.1.1) 0 iv1 lv none (by omega) (by rw [e2 21 (by decide), upd2_self]) (by rw [f1 3 (by decide)]; exact h.eq) (by rw [f1 3 (by decide)]; exact t0) (fun iv' h' => r2 iv' (fun a ha => by rw [h' a ha, f1 a (by simp; omega)])) (fun i hi => by omega)
  have z : ∀ a, a ≠ 21 → (upd2 iv2 21 8 (-1)) a = iv2 a := fun a ha => upd2_off _ _ _ _ ha
  obtain ⟨iv3, b1, b2, b3, b4, b5⟩ := c_govern X im lw tl lv2 (f := A.1.1) (l := lawOf A.1) p1 t1 (nP A.1.1) 0 (by omega) (d + 36 - nP A.1.1) (upd2 iv2 21 8 (-1)) (fun _ => 0) 0 none ⟨by rw [upd2_ne _ _ _ _ (by decide), a2 21 (by decide), e2 21 (by decide), upd2_self], by rw [upd2_self]; rfl, fun b hb => by cases hb⟩ (by rw [z 28 (by decide)]; exact a4) ⟨fun t ht => by rw [z 29 (by decide), a2 29 (by decide), e3 t (by omega)]; rfl, fun i hi => by omega⟩ (by omega)
  rw [show d + 36 - nP A.1.1 + 2 + nP A.1.1 = d + 38 by omega] at b1
  have b1 : call X xT (d + 38) 174 [.inr (.inr (some 21)), .inl (nI 0), .inl (nI 0)] (SS im lw tl, upd2 iv2 21 8 (-1), lv2) = some (none, (SS im lw tl, iv3, lv2)) := b1
  have b2 : govI (nP A.1.1) (nT A.1.1) (bst none (govL A)) iv3 := b2
  have fA : fr [18, 20, 21, 26, 27, 28, 29] iv iv3 := ((f1.mo (by simp)).tr (a2.mo (by simp))).tr ((fr_upd _ _ _ (by simp)).tr (b3.mo (by simp)))
  have h1 : RelC A im lw tl iv3 := h.fr (fun a ha => fA a (by simp [ncC] at ha; simp; omega)) (fun a ha => fA a (by simp; omega))
  rw [e173, a1, b1, bV_some, sg173_134, bI_some, sg172_30, b2.2.1]
  refine ⟨iv3, lv2, ?_, h1, fA.mid (by simp), a3.mid⟩
  have nb : ∃ b, bst none (govL A) = some b := by
    rcases bst_is (govL A) with ⟨e, -⟩ | ⟨b, e, -⟩
    · exfalso
      have ne : ∀ (m p : Nat) (r : Sc) (c : Nat), lev (nT A.1.1 + 1) (govS A.1.1 (lawOf A.1) (nT A.1.1)) m p r c ≠ [] := by
        intro m
        induction m with
        | zero => intro p r c q; cases q
        | succ m ih =>
          intro p r c q
          have last : ∀ (k j : Nat), j + k = nT A.1.1 → levI (lev (nT A.1.1 + 1) (govS A.1.1 (lawOf A.1) (nT A.1.1)) m (p + 1)) (govS A.1.1 (lawOf A.1) (nT A.1.1) p) p r c (k + 1) j ≠ [] := by
            intro k
            induction k with
            | zero =>
              intro j hj q
              have : j = nT A.1.1 := by omega
              subst this
              simp only [levI] at q
              rw [List.append_nil, show govS A.1.1 (lawOf A.1) (nT A.1.1) p (nT A.1.1) r = some 1 from if_pos rfl] at q
              exact ih _ _ _ q
            | succ k ik =>
              intro j hj q
              rw [show levI (lev (nT A.1.1 + 1) (govS A.1.1 (lawOf A.1) (nT A.1.1)) m (p + 1)) (govS A.1.1 (lawOf A.1) (nT A.1.1) p) p r c (k + 1 + 1) j = levX (lev (nT A.1.1 + 1) (govS A.1.1 (lawOf A.1) (nT A.1.1)) m (p + 1)) p r c j (govS A.1.1 (lawOf A.1) (nT A.1.1) p j r) ++ levI (lev (nT A.1.1 + 1) (govS A.1.1 (lawOf A.1) (nT A.1.1)) m (p + 1)) (govS A.1.1 (lawOf A.1) (nT A.1.1) p) p r c (k + 1) (j + 1) from rfl] at q
              exact ik (j + 1) (by omega) (List.append_eq_nil_iff.mp q).2
          exact last (nT A.1.1) 0 (by omega) q
      exact ne _ _ _ _ e
    · exact ⟨b, e⟩
  obtain ⟨b, hb⟩ := nb
  rw [hb] at b2 ⊢
  obtain ⟨g1, g2⟩ := b2.2.2 b rfl
  have bn : govV (nP A.1.1) (nT A.1.1) (some b) (nI n) = if nI n = 0 then nI (nP A.1.1 - b.1) else cvR (nT A.1.1) (b.2 (nI n - nI 1).toNatClampNeg) := rfl
  simp only [if_true]
  rw [bn]
  by_cases c : n = 0
  · subst c; rw [if_pos (by decide), if_pos (by decide), sg172_49]; rfl
  · have z : ¬ nI n = 0 := fun e => c (by have := congrArg Int32.toNatClampNeg e; rw [nI_clamp (by omega)] at this; exact this)
    rw [if_neg z, if_neg z, pk_sub (by omega), tr150, if_neg (nI_pos (by omega)), if_neg (nI_ge (by omega) (by omega)), if_pos (inb_nI (by omega) (by omega)), bI_some, sg172_49, nI_clamp (by omega), g2 (n - 1) (by omega)]
