theorem c_act (X : XE) (im lw : List (Option Nat)) (tl : List XC) (lv : Nat → Nat → Int64) {f : Sc} (hf : okF f) {n t M : Nat} {l : Lw} {told : Int32} (hn : n ≤ 6) (hn0 : f 0 = nI n) (ht : t < 4) (hM : M ≤ 6) : ∀ (m p : Nat), p + m = M → ∀ (d : Nat) (iv : Nat → Nat → Int32) (r : Sc) (c lf : Nat) (o : Option Lf), actI M o iv → (∀ j, j < 59 → iv 23 j = pap f n l t r p j) → (∀ q, q < 6 → bitV told q = true → ∀ v, v < 10 → iv 25 (q * 10 + v) = turV f l t q v) → (∀ i, i < p → iv 26 i = r i) → (∀ i, i < p → ∃ a, a < 6 ∧ r i = nI a ∧ turP (pap f n l t r i) l t a ≠ nI 0) → lf < 64 → pc6 lf = m → (∀ j, j < 6 → lf.testBit j = (bitV told j && !tak r j p)) → c ≤ p → (∀ b, o = some b → c < b.1) → actR im lw tl lv M p iv (bst o (lev 6 (showS f n l t told) m p r c)) (call X xT (d + 6 + m) 146 [.inr (.inr (some 21)), .inl (nI t), .inl (nI lf), .inl (nI p), .inl (nI c)] (SS im lw tl, iv, lv)) := by
  intro m
  induction m with
  | zero =>
    intro p hp d iv r c lf o hI h23 h25 h26 hr hlf hpc hb hc hlt
    have : p = M := by omega
    subst this
    obtain ⟨iv1, k1, k2, k3, k4, k5⟩ := c_keepR X (d + 4) im lw tl iv lv (nI c)
    rw [tr146, if_pos ((pc_0 lf hlf).mp hpc), k1, bV_some, sg146_10]
    show actR im lw tl lv p p iv (bst1 o (c, r)) _
    have e : bst1 o (c, r) = some (c, r) := by
      cases o with
      | none => rfl
      | some b => exact if_pos (hlt b rfl)
    rw [e]
    refine ⟨iv1, rfl, ⟨k3, fun b hb => ?_⟩, k2.mo (by simp), fun x _ => by rw [k2 24 (by decide)], fun i _ => by rw [k2 26 (by decide)], fun j _ => by rw [k2 23 (by decide)]⟩
    injection hb with hb; subst hb
    exact ⟨by show c ≤ 6; omega, fun i hi => by rw [k5 i (by omega)]; exact h26 i hi⟩
  | succ m ih =>
    intro p hp d iv r c lf o hI h23 h25 h26 hr hlf hpc hb hc hlt
    have ih := fun iv r c lf o => ih (p + 1) (by omega) d iv r c lf o
    obtain ⟨D, hD⟩ : ∃ D, d + 6 + m = D + 5 := ⟨d + 1 + m, by omega⟩
    rw [show d + 6 + (m + 1) = (d + 6 + m) + 1 from rfl]
    rw [hD] at ih ⊢
    have nz : ¬ nI lf = 0 := fun e => by have := (pc_0 lf hlf).mpr e; omega
    rw [tr146, if_neg nz, if_pos (nI_lt (by omega) (by omega)), c_stSave X (D + 4) im lw tl iv lv (by omega), bV_some, sg146_30]
    have gp := okF_pap (l := l) hn ht hf p (r := r) (fun i hi => by obtain ⟨a, h1, h2, -⟩ := hr i hi; exact ⟨a, h1, h2⟩)
    have p0 : pap f n l t r p 0 = nI n := by rw [gp.2.1]; exact hn0
    have loop : ∀ (k j : Nat), j + k = 6 → ∀ (iv : Nat → Nat → Int32) (o : Option Lf) (w6 w7 : Option XV), actI M o iv → (∀ j, j < 59 → iv 23 j = pap f n l t r p j) → (∀ x, x < 59 → iv 24 (p * 59 + x) = pap f n l t r p x) → (∀ q, q < 6 → bitV told q = true → ∀ v, v < 10 → iv 25 (q * 10 + v) = turV f l t q v) → (∀ i, i < p → iv 26 i = r i) → actR im lw tl lv M p iv (bst o (levI (lev 6 (showS f n l t told) m (p + 1)) (showS f n l t told p) p r c k j)) (run X (call X xT (D + 5)) false 0 xc146 33 [some (.inr (.inr (some 21))), some (.inl (nI t)), some (.inl (nI lf)), some (.inl (nI p)), some (.inl (nI c)), some (.inl (nI j)), w6, w7] [] (SS im lw tl, iv, lv)) := by
      intro k
      induction k with
      | zero =>
        intro j hj iv o w6 w7 hI h23 h24 h25 h26
        rw [sg146_33, if_pos (nI_le (by omega) (by omega))]
        exact ⟨iv, rfl, hI, fun _ _ => rfl, fun _ _ => rfl, fun _ _ => rfl, fun _ _ => rfl⟩
      | succ k ik =>
        intro j hj iv o w6 w7 hI h23 h24 h25 h26
        simp only [levI]
        rw [bst_app]
        obtain ⟨v, v9, ev⟩ := gp.1.1.t (show j < 6 by omega)
        rw [← h23 (11 + j) (by omega)] at ev
        rw [sg146_33, if_neg (nI_ge (by omega) (by omega)), c_turnOf X (D + 3) im lw tl iv lv (by omega) v9 ev, bI_some, sg146_46, nI_add]
        have bj : (nI lf >>> (nI j &&& 31)) &&& nI 1 = 0 ↔ lf.testBit j = false := by
          rw [bit_0, bit_nI lf (by omega) j (by omega)]
        have skip : ∀ (w6 w7 : Int32), bst o (levX (lev 6 (showS f n l t told) m (p + 1)) p r c j (showS f n l t told p j r)) = o → actR im lw tl lv M p iv (bst (bst o (levX (lev 6 (showS f n l t told) m (p + 1)) p r c j (showS f n l t told p j r))) (levI (lev 6 (showS f n l t told) m (p + 1)) (showS f n l t told p) p r c k (j + 1))) (run X (call X xT (D + 5)) false 0 xc146 141 [some (.inr (.inr (some 21))), some (.inl (nI t)), some (.inl (nI lf)), some (.inl (nI p)), some (.inl (nI c)), some (.inl (nI j)), some (.inl w6), some (.inl w7)] [] (SS im lw tl, iv, lv)) := by
          intro w6 w7 e
          rw [e, sg146_141, nI_add]
          exact ik (j + 1) (by omega) iv o _ _ hI h23 h24 h25 h26
        by_cases cb : lf.testBit j = true
        · have nb : ¬ (nI lf >>> (nI j &&& 31)) &&& nI 1 = 0 := fun e => by rw [bj.mp e] at cb; cases cb
          have hbj := hb j (by omega)
          rw [cb] at hbj
          have hbj := Bool.and_eq_true_iff.mp hbj.symm
          have tkf : tak r j p = false := by
            have q := hbj.2
            cases h : tak r j p with
            | false => rfl
            | true => rw [h] at q; cases q
          have noj : ∀ i, i < p → r i ≠ nI j := fun i hi e => by
            have : tak r j p = true := tak_iff p |>.mpr ⟨i, hi, e⟩
            rw [tkf] at this; cases this
          have pj : ∀ x, (x < 11 ∨ 17 ≤ x) → (∀ a, a < 6 → a ≠ j → x ≠ 5 + a) → pap f n l t r p x = f x := fun x h1 h2 => pap_j hn h1 p (fun i hi => by
            obtain ⟨a, q1, q2, q3⟩ := hr i hi
            exact ⟨a, q1, q2, h2 a q1 (fun e => noj i hi (by rw [q2, e])), q3⟩)
          have eu : iv 25 (j * 10 + v) = turP (pap f n l t r p) l t j := by
            rw [h25 j (by omega) hbj.1 v (by omega)]
            refine (turP_v ⟨?_, ?_, ?_, ?_, ?_, ?_, ?_, ?_⟩).symm
            · rw [pu_n _ _ _ (by omega)]; exact pj _ (by omega) (fun a h1 h2 => by omega)
            · rw [pu_s, ← h23 (11 + j) (by omega)]; exact ev
            · rw [pu_n _ _ _ (by omega)]; exact pj _ (by omega) (fun a h1 h2 => by omega)
            · rw [pu_n _ _ _ (by omega)]; exact pj _ (by omega) (fun a h1 h2 => by omega)
            · rw [pu_n _ _ _ (by omega)]; exact pj _ (by omega) (fun a h1 h2 => by omega)
            · rw [pu_n _ _ _ (by omega)]; exact pj _ (by omega) (fun a h1 h2 => by omega)
            · rw [pu_n _ _ _ (by omega)]; exact pj _ (by omega) (fun a h1 h2 => by omega)
            · rw [pu_n _ _ _ (by omega)]; exact pj _ (by omega) (fun a h1 h2 => by omega)
          rw [eu, hI.1, if_neg nb, if_neg nb]
          -- the turn taken, at cost x
          have go : ∀ x : Nat, x ≤ 1 → turP (pap f n l t r p) l t j ≠ nI 0 → showS f n l t told p j r = some x → actR im lw tl lv M p iv (bst (bst o (levX (lev 6 (showS f n l t told) m (p + 1)) p r c j (showS f n l t told p j r))) (levI (lev 6 (showS f n l t told) m (p + 1)) (showS f n l t told p) p r c k (j + 1))) (if nI (c + x) < sB o then (if inb (nI p) 6 = true then bV (call X xT (D + 5) 127 [.inr (.inr (some 22)), .inl (turP (pap f n l t r p) l t j), .inl (nI t), .inl (nI j)] (SS im lw tl, upd2 iv 26 p (nI j), lv)) (fun h1 => run X (call X xT (D + 5)) false 0 xc146 111 [some (.inr (.inr (some 21))), some (.inl (nI t)), some (.inl (nI lf)), some (.inl (nI p)), some (.inl (nI c)), some (.inl (nI j)), some (.inl (turP (pap f n l t r p) l t j)), some (.inl (nI (c + x)))] [] h1) else none) else run X (call X xT (D + 5)) false 0 xc146 141 [some (.inr (.inr (some 21))), some (.inl (nI t)), some (.inl (nI lf)), some (.inl (nI p)), some (.inl (nI c)), some (.inl (nI j)), some (.inl (turP (pap f n l t r p) l t j)), some (.inl (nI (c + x)))] [] (SS im lw tl, iv, lv)) := by
            intro x hx1 hu hs
            rcases sB_lt (show c + x ≤ 6 by omega) (fun b hb => (hI.2 b hb).1) with ⟨b1, b2⟩ | ⟨b1, b, b2, b3⟩
            · rw [if_pos b1, if_pos (inb_nI (by omega) (by omega)), hs]
              have off : ∀ a, a ≠ 26 → (upd2 iv 26 p (nI j)) a = iv a := fun a ha => upd2_off _ _ _ _ ha
              have q23 : (upd2 iv 26 p (nI j)) 23 = iv 23 := off 23 (by decide)
              rw [c_reactF (d := D + 1) (sc22 im lw tl) hn ht (show j < 6 by omega) (by rw [q23, h23 0 (by omega)]; exact p0), bV_some, q23, sg146_111]
              obtain ⟨y1, y2, y3, y4⟩ := pc_clr lf hlf j (by omega) cb
              rw [y1, nI_add]
              generalize hg : upr (upd2 iv 26 p (nI j)) 23 (reactF (iv 23) n (turP (pap f n l t r p) l t j) t j) = ivg
              have g23 : ivg 23 = reactF (iv 23) n (turP (pap f n l t r p) l t j) t j := by rw [← hg, upr_self]
              have g26 : ivg 26 = (upd2 iv 26 p (nI j)) 26 := by rw [← hg, upr_off _ _ _ (by decide)]
              have go' : ∀ a, a ≠ 23 → a ≠ 26 → ivg a = iv a := fun a h1 h2 => by rw [← hg, upr_off _ _ _ h1, off a h2]
              have pe : pap f n l t (pu r p (nI j)) p = pap f n l t r p := pap_eq p (fun i hi => pu_n _ _ _ (by omega))
              have pS : pap f n l t (pu r p (nI j)) (p + 1) = reactF (pap f n l t r p) n (turP (pap f n l t r p) l t j) t j := by
                simp only [pap]; rw [pe, pu_s, nI_clamp (by omega)]
              obtain ⟨iv1, a1, a2, a3, a4, a5, a6⟩ := ih ivg (pu r p (nI j)) (c + x) (lf - 2 ^ j) o (by unfold actI; rw [go' 21 (by decide) (by decide), go' 27 (by decide) (by decide)]; exact hI) (fun i hi => by rw [g23, pS]; exact reactF_eq h23 _ hn ht (by omega) i hi) (by rw [go' 25 (by decide) (by decide)]; exact h25) (fun i hi => by
                rw [g26]
                by_cases e : i = p
                · subst e; rw [upd2_self, pu_s]
                · rw [upd2_ne _ _ _ _ (fun z => e z.2), pu_n _ _ _ e]; exact h26 i (by omega)) (fun i hi => by
                by_cases e : i = p
                · subst e; rw [pe]; exact ⟨j, by omega, pu_s _ _ _, hu⟩
                · rw [pu_n _ _ _ e, pap_eq (r' := r) i (fun q hq => pu_n _ _ _ (by omega))]; exact hr i (by omega)) y3 (by omega) (fun s hs => by
                rw [y4 s hs, hb s hs]
                simp only [tak]
                rw [pu_s, tak_eq s p (fun i hi => pu_n r p (nI j) (by omega)), Bool.not_or, ← Bool.and_assoc]
                congr 1
                by_cases e : s = j
                · subst e; simp
                · rw [decide_eq_true e, decide_eq_false (fun q => e (nI_inj8 j (by omega) s (by omega) q).symm)]; rfl) (by omega) b2
              rw [a1, bV_some, sg146_129, c_stLoad X (D + 4) im lw tl iv1 lv (by omega), bV_some, sg146_141, nI_add]
              have q24 : ∀ z, z < 59 → iv1 24 (p * 59 + z) = pap f n l t r p z := fun z hz => by
                rw [a4 _ (by omega), go' 24 (by decide) (by decide)]; exact h24 z hz
              have n23 : ∀ z, z < 59 → (upr iv1 23 (va_cpy (iv1 24) (iv1 23) (p * 59) 0 59)) 23 z = pap f n l t r p z := fun z hz => by
                rw [upr_self, pk_cpy_in (by omega) (by omega), show z - 0 = z by omega]; exact q24 z hz
              have f1 : fr [21, 23, 24, 26, 27] iv (upr iv1 23 (va_cpy (iv1 24) (iv1 23) (p * 59) 0 59)) := fun a ha => by
                simp at ha
                rw [upr_off _ _ _ (by omega), a3 a (by simp; omega), go' a (by omega) (by omega)]
              obtain ⟨iv2, c1, c2, c3, c4, c5, c6⟩ := ik (j + 1) (by omega) (upr iv1 23 (va_cpy (iv1 24) (iv1 23) (p * 59) 0 59)) (bst o (lev 6 (showS f n l t told) m (p + 1) (pu r p (nI j)) (c + x))) (some (.inl (turP (pap f n l t r p) l t j))) (some (.inl (nI (c + x)))) (by unfold actI; rw [upr_off _ _ _ (by decide), upr_off _ _ _ (by decide)]; exact a2) n23 (fun z hz => by rw [upr_off _ _ _ (by decide)]; exact q24 z hz) (by rw [f1 25 (by decide)]; exact h25) (fun i hi => by rw [upr_off _ _ _ (by decide), a5 i (by omega), g26, upd2_ne _ _ _ _ (by omega)]; exact h26 i hi)
              refine ⟨iv2, c1, c2, f1.tr c3, fun z hz => ?_, fun i hi => ?_, fun z hz => ?_⟩
              · rw [c4 z hz, upr_off _ _ _ (by decide), a4 z (by omega), go' 24 (by decide) (by decide)]
              · rw [c5 i hi, upr_off _ _ _ (by decide), a5 i (by omega), g26, upd2_ne _ _ _ _ (by omega)]
              · rw [c6 z hz, n23 z hz, h23 z hz]
            · rw [if_neg b1]
              refine skip _ _ ?_
              rw [hs, b2]
              exact bst_ge _ (fun l hl => by have := lev_ge _ _ _ _ l hl; omega)
          have ss : ∀ x : Nat, x = (if turP (pap f n l t r p) l t j = nI 1 then 1 else 0) → turP (pap f n l t r p) l t j ≠ nI 0 → showS f n l t told p j r = some x := fun x hx hu => by
            unfold showS; rw [if_pos ⟨hbj.1, tkf, hu⟩, hx]
          by_cases u1 : turP (pap f n l t r p) l t j = nI 1
          · have u0 : turP (pap f n l t r p) l t j ≠ nI 0 := by rw [u1]; decide
            rw [if_pos u1, if_neg (by rw [← nI_0]; exact u0)]
            try rw [nI_clamp (show p < 2147483648 by omega)]
            exact go 1 (by omega) u0 (ss 1 (by rw [if_pos u1]) u0)
          · rw [if_neg u1]
            by_cases u0 : turP (pap f n l t r p) l t j = nI 0
            · rw [if_pos (by rw [← nI_0]; exact u0)]
              exact skip _ _ (by rw [show showS f n l t told p j r = none from if_neg (fun q => q.2.2 u0)]; rfl)
            · rw [if_neg (by rw [← nI_0]; exact u0)]
              try rw [nI_clamp (show p < 2147483648 by omega)]
              exact go 0 (by omega) u0 (ss 0 (by rw [if_neg u1]) u0)
        · have e0 : lf.testBit j = false := Bool.eq_false_iff.mpr cb
          have sn : showS f n l t told p j r = none := by
            refine if_neg (fun q => ?_)
            have := hb j (by omega)
            rw [e0, q.1, q.2.1] at this
            cases this
          rw [if_pos (bj.mpr e0), if_pos (bj.mpr e0)]
          have sk := fun w6 w7 => skip w6 w7 (by rw [sn]; rfl)
          split
          · exact sk _ _
          · exact sk _ _
    have i24 : ∀ x, x < 59 → (upr iv 24 (va_cpy (iv 23) (iv 24) 0 (p * 59) 59)) 24 (p * 59 + x) = pap f n l t r p x := fun x hx => by
      rw [upr_self, pk_cpy_in (by omega) (by omega), show 0 + (p * 59 + x - p * 59) = x by omega]; exact h23 x hx
    obtain ⟨iv2, c1, c2, c3, c4, c5, c6⟩ := loop 6 0 (by omega) (upr iv 24 (va_cpy (iv 23) (iv 24) 0 (p * 59) 59)) o none none (by unfold actI; rw [upr_off _ _ _ (by decide), upr_off _ _ _ (by decide)]; exact hI) (by rw [upr_off _ _ _ (by decide)]; exact h23) i24 (by rw [upr_off _ _ _ (by decide)]; exact h25) (by rw [upr_off _ _ _ (by decide)]; exact h26)
    refine ⟨iv2, c1, c2, (fr_upr _ _ (by simp)).tr c3, fun x hx => ?_, fun i hi => ?_, fun j hj => ?_⟩
    · rw [c4 x hx, upr_self, pk_cpy_out (by omega)]
    · rw [c5 i hi, upr_off _ _ _ (by decide)]
    · rw [c6 j hj, upr_off _ _ _ (by decide)]
