/-! cubs: the class's search -/
def cubI (n days : Nat) (o : Option Lf) (iv : Nat → Nat → Int32) : Prop := iv 21 9 = nI n ∧ iv 21 8 = gB n o ∧ ∀ b, o = some b → b.1 ≤ n ∧ ∀ i, i < days → iv 27 i = cvR n (b.2 i)
def cubR (im lw : List (Option Nat)) (tl : List XC) (lv : Nat → Nat → Int64) (n days q : Nat) (iv : Nat → Nat → Int32) (o : Option Lf) (T : Option XR) : Prop := ∃ iv', T = some (none, (SS im lw tl, iv', lv)) ∧ cubI n days o iv' ∧ fr [21, 26, 27, 29] iv iv' ∧ (∀ p, p < n → iv' 29 p = iv 29 p) ∧ ∀ i, i < q → iv' 26 i = iv 26 i
theorem um_pu (r : Sc) (q j p : Nat) (hj : j < 8) (hp : p < 8) : um (pu r q (nI j)) p (q + 1) = um r p q ||| (if j = p then 2 ^ q else 0) := by
  simp only [um]
  rw [pu_s, um_eq p q (fun i hi => pu_n r q (nI j) (by omega))]
  congr 1
  by_cases e : j = p
  · rw [if_pos (by rw [e]), if_pos e]
  · rw [if_neg (fun z => e (nI_inj8 j hj p hp z)), if_neg e]
theorem cv_o8 {n j : Nat} (h : j < n) (hn : n ≤ 6) : cvR n (nI j) = nI j := if_neg (fun e => by have := nI_inj8 j (by omega) n (by omega) e; omega)
theorem c_choose (X : XE) (im lw : List (Option Nat)) (tl : List XC) (lv : Nat → Nat → Int64) {A : St} (ho : OKA A) {t days : Nat} (hd : days ≤ 4) : ∀ (m q : Nat), q + m = days → ∀ (d : Nat) (iv : Nat → Nat → Int32) (r : Sc) (o : Option Lf), cubI (nP A.1.1) days o iv → (∀ i, i < nP A.1.1 → ∀ s, s < 2 ^ days → bitV (iv 28 i) s = latV A t days i s) → (∀ p, p < nP A.1.1 → iv 29 p = nI (um r p q)) → (∀ i, i < q → iv 26 i = cvR (nP A.1.1) (r i)) → cubR im lw tl lv (nP A.1.1) days q iv (bst o ((lev (nP A.1.1 + 1) fre m q r 0).map (cubM A t days))) (call X xT (d + 3 + m) 179 [.inr (.inr (some 21)), .inl (nI q), .inl (nI days)] (SS im lw tl, iv, lv)) := by
  have n6 : nP A.1.1 ≤ 6 := ho.1.1.1.np.2
  intro m
  induction m with
  | zero =>
    intro q hq d iv r o hI hM hU hR
    have : q = days := by omega
    subst this
    show cubR im lw tl lv (nP A.1.1) q q iv (bst1 o (cubM A t q (0, r))) _
    have la := c_loyAll X (d + 1) im lw tl iv lv n6 hI.1 (g := fun p => latV A t q p (um r p q)) (u := fun p => um r p q) hU (fun p hp => hM p hp _ (um_lt r p q)) (nP A.1.1) 0 0 (by omega)
    have la : run X (call X xT (d + 1)) false 1 xc180 4 [some (.inr (.inr (some 21))), some (.inl (nI 0)), some (.inl (nI 0))] [] (SS im lw tl, iv, lv) = some (some (.inl (nI (cubW A t q r))), (SS im lw tl, iv, lv)) := by rw [Nat.zero_add] at la; exact la
    have wl : cubW A t q r ≤ nP A.1.1 := loyN_le _ _ _
    rw [tr179, if_pos (nI_le (by omega) (by omega)), tr180, la, bI_some, sg179_14, hI.2.1]
    have eW : nP A.1.1 - (nP A.1.1 - cubW A t q r) = cubW A t q r := by omega
    rcases gB_lt n6 (show nP A.1.1 - cubW A t q r ≤ nP A.1.1 by omega) (fun b hb => (hI.2.2 b hb).1) with ⟨b1, b2⟩ | ⟨b1, b, b2, b3⟩
    · rw [eW] at b1
      rw [if_neg (fun e => (Int32.not_lt.mpr e) b1), show bst1 o (cubM A t q (0, r)) = some (nP A.1.1 - cubW A t q r, r) from b2 r]
      obtain ⟨iv1, k1, k2, k3, k4, k5⟩ := c_keepR X (d + 1) im lw tl iv lv (nI (cubW A t q r))
      rw [k1, bV_some, sg179_28]
      refine ⟨iv1, rfl, ⟨by rw [k4]; exact hI.1, by rw [k3]; show _ = nI (nP A.1.1 - (nP A.1.1 - cubW A t q r)); rw [eW], fun b hb => ?_⟩, k2.mo (by simp), fun t _ => by rw [k2 29 (by decide)], fun i _ => by rw [k2 26 (by decide)]⟩
      injection hb with hb; subst hb
      exact ⟨by show nP A.1.1 - cubW A t q r ≤ nP A.1.1; omega, fun i hi => by rw [k5 i (by omega)]; exact hR i hi⟩
    · rw [eW] at b1
      rw [if_pos (Int32.not_lt.mp b1), sg179_28]
      subst b2
      rw [show bst1 (some b) (cubM A t q (0, r)) = some b from if_neg (by show ¬ nP A.1.1 - cubW A t q r < b.1; omega)]
      exact ⟨iv, rfl, hI, fun _ _ => rfl, fun _ _ => rfl, fun _ _ => rfl⟩
  | succ m ih =>
    intro q hq d iv r o hI hM hU hR
    rw [show d + 3 + (m + 1) = (d + 3 + m) + 1 from rfl, tr179, if_neg (nI_ge (by omega) (by omega)), if_pos (nI_lt (by omega) (by omega))]
    have ih := fun iv r o => ih (q + 1) (by omega) d iv r o
    have loop : ∀ (k j : Nat), j + k = nP A.1.1 → ∀ (iv : Nat → Nat → Int32) (o : Option Lf), cubI (nP A.1.1) days o iv → (∀ i, i < nP A.1.1 → ∀ s, s < 2 ^ days → bitV (iv 28 i) s = latV A t days i s) → (∀ p, p < nP A.1.1 → iv 29 p = nI (um r p q)) → (∀ i, i < q → iv 26 i = cvR (nP A.1.1) (r i)) → cubR im lw tl lv (nP A.1.1) days q iv (bst o ((levI (lev (nP A.1.1 + 1) fre m (q + 1)) (fre q) q r 0 (k + 1) j).map (cubM A t days))) (run X (call X xT (d + 3 + m)) false 0 xc179 31 [some (.inr (.inr (some 21))), some (.inl (nI q)), some (.inl (nI days)), some (.inl (nI j))] [] (SS im lw tl, iv, lv)) := by
      intro k
      induction k with
      | zero =>
        intro j hj iv o hI hM hU hR
        have : j = nP A.1.1 := by omega
        subst this
        have el : levI (lev (nP A.1.1 + 1) fre m (q + 1)) (fre q) q r 0 (0 + 1) (nP A.1.1) = lev (nP A.1.1 + 1) fre m (q + 1) (pu r q (nI (nP A.1.1))) 0 := by
          simp only [levI]; rw [List.append_nil]; rfl
        rw [el, sg179_31, hI.1, if_pos (nI_le (by omega) (by omega)), if_pos (inb_nI (by omega) (by omega)), nI_clamp (by omega), nI_add]
        have off : ∀ a, a ≠ 26 → (upd2 iv 26 q (nI 100)) a = iv a := fun a ha => upd2_off _ _ _ _ ha
        obtain ⟨iv1, a1, a2, a3, a4, a5⟩ := ih (upd2 iv 26 q (nI 100)) (pu r q (nI (nP A.1.1))) o (by unfold cubI; rw [off 21 (by decide), off 27 (by decide)]; exact hI) (by rw [off 28 (by decide)]; exact hM) (fun p hp => by
          rw [off 29 (by decide), hU p hp, um_pu r q _ p (by omega) (by omega), if_neg (by omega), Nat.or_zero]) (fun i hi => by
          by_cases e : i = q
          · subst e; rw [upd2_self, pu_s, cv_s]
          · rw [upd2_ne _ _ _ _ (fun z => e z.2), pu_n _ _ _ e]; exact hR i (by omega))
        rw [a1, bV_some, sg179_108]
        exact ⟨iv1, rfl, a2, (fr_upd _ _ _ (by simp)).tr a3, fun p hp => by rw [a4 p hp, off 29 (by decide)], fun i hi => by rw [a5 i (by omega), upd2_ne _ _ _ _ (by omega)]⟩
      | succ k ik =>
        intro j hj iv o hI hM hU hR
        have el : levI (lev (nP A.1.1 + 1) fre m (q + 1)) (fre q) q r 0 (k + 1 + 1) j = lev (nP A.1.1 + 1) fre m (q + 1) (pu r q (nI j)) 0 ++ levI (lev (nP A.1.1 + 1) fre m (q + 1)) (fre q) q r 0 (k + 1) (j + 1) := rfl
        have ul := um_lt r j q
        have u16 : um r j q < 16 := by have := p2_le (show q ≤ 4 by omega); omega
        rw [el, List.map_append, bst_app, sg179_31, hI.1, if_neg (nI_ge (by omega) (by omega)), if_neg (nI_ge (by omega) (by omega)), if_pos (inb_nI (by omega) (by omega)), if_pos (inb_nI (by omega) (by omega)), if_pos (inb_nI (by omega) (by omega)), nI_clamp (by omega), nI_clamp (by omega), hU j (by omega), (tk_o (um r j q) (by omega) q (by omega)).1, nI_add]
        have off : ∀ a, a ≠ 26 → a ≠ 29 → (upd2 (upd2 iv 26 q (nI j)) 29 j (nI (um r j q ||| 2 ^ q))) a = iv a := fun a h1 h2 => by rw [upd2_off _ _ _ _ h2, upd2_off _ _ _ _ h1]
        obtain ⟨iv1, a1, a2, a3, a4, a5⟩ := ih (upd2 (upd2 iv 26 q (nI j)) 29 j (nI (um r j q ||| 2 ^ q))) (pu r q (nI j)) o (by unfold cubI; rw [off 21 (by decide) (by decide), off 27 (by decide) (by decide)]; exact hI) (by rw [off 28 (by decide) (by decide)]; exact hM) (fun p hp => by
          rw [um_pu r q j p (by omega) (by omega)]
          by_cases e : j = p
          · subst e; rw [upd2_self, if_pos rfl]
          · rw [upd2_ne _ _ _ _ (fun z => e z.2.symm), upd2_off _ _ _ _ (by decide), hU p hp, if_neg e, Nat.or_zero]) (fun i hi => by
          rw [upd2_off _ _ _ _ (by decide)]
          by_cases e : i = q
          · subst e; rw [upd2_self, pu_s, cv_o8 (by omega) n6]
          · rw [upd2_ne _ _ _ _ (fun z => e z.2), pu_n _ _ _ e]; exact hR i (by omega))
        rw [a1, bV_some, sg179_72, if_pos (inb_nI (by omega) (by omega)), if_pos (inb_nI (by omega) (by omega)), nI_clamp (by omega), a4 j (by omega), upd2_self, um_off _ u16 q (by omega) ul, nI_add]
        have u29 : ∀ s, s < nP A.1.1 → (upd2 iv1 29 j (nI (um r j q))) 29 s = iv 29 s := fun s hs => by
          by_cases e : s = j
          · subst e; rw [upd2_self, hU s hs]
          · rw [upd2_ne _ _ _ _ (fun z => e z.2), a4 s hs, upd2_ne _ _ _ _ (fun z => e z.2), upd2_off _ _ _ _ (by decide)]
        have u26 : ∀ i, i < q → (upd2 iv1 29 j (nI (um r j q))) 26 i = iv 26 i := fun i hi => by
          rw [upd2_off _ _ _ _ (by decide), a5 i (by omega), upd2_off _ _ _ _ (by decide), upd2_ne _ _ _ _ (by omega)]
        have f1 : fr [21, 26, 27, 29] iv (upd2 iv1 29 j (nI (um r j q))) := (((fr_upd _ _ _ (by simp)).tr (fr_upd _ _ _ (by simp))).tr a3).tr (fr_upd _ _ _ (by simp))
        obtain ⟨iv2, b1, b2, b3, b4, b5⟩ := ik (j + 1) (by omega) (upd2 iv1 29 j (nI (um r j q))) (bst o ((lev (nP A.1.1 + 1) fre m (q + 1) (pu r q (nI j)) 0).map (cubM A t days))) (by unfold cubI; rw [upd2_off _ _ _ _ (by decide), upd2_off _ _ _ _ (by decide)]; exact a2) (by rw [f1 28 (by decide)]; exact hM) (fun s hs => by rw [u29 s hs]; exact hU s hs) (fun i hi => by rw [u26 i hi]; exact hR i hi)
        exact ⟨iv2, b1, b2, f1.tr b3, fun s hs => by rw [b4 s hs, u29 s hs], fun i hi => by rw [b5 i hi, u26 i hi]⟩
    exact loop (nP A.1.1) 0 (by omega) iv o hI hM hU hR
/-- cubs -/
def cubL (A : St) (t days : Nat) : List Lf := (lev (nP A.1.1 + 1) fre days 0 (fun _ => 0) 0).map (cubM A t days)
def cubV (n : Nat) (o : Option Lf) (i : Int32) : Int32 := match o with
  | none => -1
  | some b => if i = -1 then nI (n - b.1) else cvR n (b.2 i.toNatClampNeg)
def sp_cubs (t n i : Int32) (A : St) : Int32 × St := (if hasV (nI (nT A.1.1)) t = true ∧ inV n (nI 4) = true ∧ (i = -1 ∨ inV i (n - nI 1) = true) then cubV (nP A.1.1) (bst none (cubL A t.toNatClampNeg n.toNatClampNeg)) i else -1, A)
theorem cubL_ne (A : St) (t days : Nat) : ∃ b, bst none (cubL A t days) = some b := by
  rcases bst_is (cubL A t days) with ⟨e, -⟩ | ⟨b, e, -⟩
  · exfalso
    unfold cubL at e
    rw [lev_row_all (by omega)] at e
    have h := congrArg List.length e
    simp at h
  · exact ⟨b, e⟩
