/-! show: the reference's call -/
theorem msk_l : ∀ n, n < 7 → (lN 1 <<< ((nI n).toInt64 &&& 63)) - lN 1 = lN (2 ^ n - 1) := by decide +kernel
theorem tb_ge {td n j : Nat} (h : td < 2 ^ n) (hj : n ≤ j) : td.testBit j = false := Nat.testBit_lt_two_pow (Nat.lt_of_lt_of_le h (Nat.pow_le_pow_right (by omega) hj))
theorem m_findShow (X : XE) (d : Nat) (im lw : List (Option Nat)) (tl : List XC) {A : St} (ho : OKA A) {t td : Nat} (ht : t < 4) (htd : td < 64) (hd2 : td < 2 ^ nP A.1.1) (iv : Nat → Nat → Int32) (lv : Nat → Nat → Int64) (h : RelM A iv lv) : ∃ iv' lv', call X xT (d + 8) 280 [.inr (.inr (some 46)), .inl (nI t), .inl (nI td)] (SS im lw tl, iv, lv) = some (some (.inl (bI0 (bst none (showL A t td)))), (SS im lw tl, iv', lv')) ∧ eqS A.1.1 (fM (iv' 48)) ∧ rowS (iv 48) (iv' 48) ∧ frG [48, 69, 70, 71, 72] iv iv' ∧ agN lv lv' ∧ rowK (pc6 td) (iv' 72) (bst none (showL A t td)) := by
  obtain ⟨p0, p1, t0, t1, hk, he, hk2, h20⟩ := mfacts h ho
  have p6 := pc_le td htd
  have st : ∀ (c j : Nat), j < 6 → run X (call X xT (d + 7)) false 1 xc280 5 [some (.inr (.inr (some 46))), some (.inl (nI t)), some (.inl (nI td)), some (.inl (nI c)), some (.inl (nI j)), none, none, none] [] (SS im lw tl, iv, lv) = run X (call X xT (d + 7)) false 1 xc280 5 [some (.inr (.inr (some 46))), some (.inl (nI t)), some (.inl (nI td)), some (.inl (nI (c + if td.testBit j = true then 1 else 0))), some (.inl (nI (j + 1))), none, none, none] [] (SS im lw tl, iv, lv) := by
    intro c j hj
    rw [sg280_5, if_neg (nI_ge hj (by omega)), m_is X (d + 6), bI_some, sg280_19, b2i_ite, bit_nI td (by omega) j (by omega)]
    by_cases e : td.testBit j = true
    · rw [if_pos e, if_pos e, nI_add, nI_add]
    · rw [if_neg e, if_neg e, nI_add, nI_add]
  have ec : 0 + (if td.testBit 0 = true then 1 else 0) + (if td.testBit 1 = true then 1 else 0) + (if td.testBit 2 = true then 1 else 0) + (if td.testBit 3 = true then 1 else 0) + (if td.testBit 4 = true then 1 else 0) + (if td.testBit 5 = true then 1 else 0) = pc6 td := by unfold pc6; omega
  rw [tr280, st 0 0 (by omega), st _ (0 + 1) (by omega), st _ (0 + 1 + 1) (by omega), st _ (0 + 1 + 1 + 1) (by omega), st _ (0 + 1 + 1 + 1 + 1) (by omega), st _ (0 + 1 + 1 + 1 + 1 + 1) (by omega)]
  simp only [Nat.zero_add, Nat.reduceAdd] at ec ⊢
  rw [ec, sg280_5, if_pos (nI_le (by omega) (by omega)), nI_add, if_pos (ib5k (by omega)), nI_clamp (by omega)]
  generalize hg : upd2 (upd2 iv 69 0 (-1)) 71 0 (nI 0) = iv1
  have z1 : ∀ a, a ≠ 69 → a ≠ 71 → iv1 a = iv a := fun a h1 h2 => by rw [← hg, upd2_off _ _ _ _ h2, upd2_off _ _ _ _ h1]
  have f1 : fr [48, 69, 70, 71, 72] iv iv1 := hg ▸ (fr_upd _ _ _ (by simp)).tr (fr_upd _ _ _ (by simp))
  obtain ⟨iv2, s1, s2, s3, s4⟩ := m_save X (d + 6) im lw tl iv1 lv (p := 0) (by omega)
  have z2 : ∀ a, a ≠ 70 → iv2 a = iv1 a := fun a ha => s2 a (by simp; exact ha)
  have f2 : fr [48, 69, 70, 71, 72] iv iv2 := f1.tr (s2.mo (by simp))
  have r48 : iv2 48 = iv 48 := by rw [z2 48 (by decide), z1 48 (by decide) (by decide)]
  have e70 : ∀ i, i < 12 → iv2 70 i = A.1.1 (5 + i) := fun i hi => by
    have := s3 i hi
    rw [show 12 * 0 + i = i by omega] at this
    rw [this, z1 48 (by decide) (by decide), he (5 + i) (by omega), fM, mx_i hi]
  obtain ⟨iv3, lv3, w3, a1, a2, a3, a4, a5, a6, a7, a8⟩ := m_sho X d im lw tl (f := A.1.1) (g0 := iv 48) (n := nP A.1.1) (t := t) (M := pc6 td) (l := lawOf A.1) (told := nI td) (v5 := iv 48 (30 + t)) ho.1.1 p1 hk.np.1 ht p6 (fun j h1 h2 => by rw [bit_nI td (by omega) j (by omega)]; exact tb_ge hd2 h1) (h.lawG ho) (pc6 td) 0 (by omega) iv2 lv (fun _ => 0) 0 none none (by rw [f2 46 (by simp)]; exact h20) ⟨by rw [r48]; exact rowS.rf, fun j hj _ => by rw [r48]; exact (he j hj).symm⟩ (by rw [z2 69 (by decide), ← hg, upd2_off _ _ _ _ (by decide), upd2_self]) (by rw [z2 71 (by decide), ← hg, upd2_self]) (by omega) (fun i hi => by omega) (fun i hi => by omega) (fun i hi => by rw [show 12 * 0 + i = i by omega]; exact e70 i hi) (fun b hb => by cases hb)
  have a1 : run X (call X xT (d + 7)) false 1 xc280 73 [some (.inr (.inr (some 46))), some (.inl (nI t)), some (.inl (nI td)), some (.inl (nI (pc6 td))), some (.inl (nI 100000000)), some (.inl (iv 48 (30 + t))), some (.inl (nI 0)), none] [] (SS im lw tl, iv2, lv) = run X (call X xT (d + 7)) false 1 xc280 73 [some (.inr (.inr (some 46))), some (.inl (nI t)), some (.inl (nI td)), some (.inl (nI (pc6 td))), some (.inl (bI0 (bst none (showL A t td)))), some (.inl (iv 48 (30 + t))), some (.inl (nI 0 + (-1))), w3] [] (SS im lw tl, iv3, lv3) := a1
  have a7 : rowK (pc6 td) (iv3 72) (bst none (showL A t td)) := a7
  obtain ⟨iv4, l1, l2, l3, l4⟩ := m_load X (d + 6) im lw tl iv3 lv3 (p := 0) (by omega)
  obtain ⟨hP, he4⟩ := shoP_ld a8 l4 (P := A.1.1) (fun i hi => by rw [l3 i hi, show 12 * 0 + i = i by omega, a6 i (by omega), e70 i hi]) (fun j hj _ => rfl)
  rw [s1, bV_some, a1, sg280_73, if_pos (by decide), l1, bV_some, sg280_319, nI_add, if_pos (ib5k (by omega)), nI_clamp (by omega)]
  have ea : iv 48 (30 + t) = A.1.1 (31 + t) := by rw [he (31 + t) (by omega), fM, mx_a ht]
  have f4 : frG [48, 69, 70, 71, 72] iv iv4 := (f2.G.tr a2).tr (l2.mo (by simp)).G
  refine ⟨_, lv3, rfl, ?_, ?_, f4.tr (fr_upd _ _ _ (by simp)).G, a3, by rw [upd2_off _ _ _ _ (by decide), l2 72 (by decide)]; exact a7⟩
  · rw [upd2_rw, ea, ← mx_a ht]
    refine eqS.tr (fun j hj => ?_) (eqS_pu he4 (by omega) _)
    by_cases q : j = 31 + t
    · subst q; rw [pu_s]
    · rw [pu_n _ _ _ q]
  · rw [upd2_rw, ← mx_a ht]
    exact hP.1.tr (rowS_pu _ (by omega) _)
theorem M_show (t x i : Int32) : MSpec 279 [.inl t, .inl x, .inl i] (sp_show t x i) := by
  intro X d im lw tl iv lv A h ho
  show MR' im lw tl iv _ _
  have h0 := h.thr (nI 0)
  obtain ⟨p0, p1, t0, t1, hk, he, hk2, h20⟩ := mfacts h0 ho
  unfold sp_show
  have p0' : iv 48 0 = nI (nP A.1.1) := by rw [upd2_off _ _ _ _ (by decide)] at p0; exact p0
  rw [tr279, m_isT X (d + 37) im lw tl _ lv t1 t0, bI_some, sg279_10, b2i_ite]
  by_cases ht : hasV (nI (nT A.1.1)) t = true
  · rw [if_pos ht, if_pos ht, p0, m_in X (d + 38), bI_some, sg279_29, b2i_ite, msk_l _ (by omega)]
    obtain ⟨q0, q1⟩ := msk_p (nP A.1.1) (by omega)
    rw [in_inV x (top := 2 ^ nP A.1.1 - 1) (by omega)]
    by_cases hx : inV x (nI (2 ^ nP A.1.1 - 1)) = true
    · rw [if_pos hx, if_pos hx]
      obtain ⟨a, ha, rfl⟩ := hasV_of (by omega) ht
      obtain ⟨td, htd, rfl⟩ := inV_of (by omega) hx
      rw [nI_clamp (by omega), nI_clamp (by omega)]
      have p6 := pc_le td (by omega)
      by_cases ci : (-1 : Int32) ≤ i
      · rw [if_pos ci]
        obtain ⟨iv1, lv1, g1, g2, g3, g4, g5, g6⟩ := m_findShow X (d + 31) im lw tl ho (t := a) (td := td) (by omega) (by omega) (by omega) _ lv h0
        rw [g1, bI_some, sg279_45]
        have fin : ∀ {r : Option XR} {v : Int32}, r = some (some (.inl v), (SS im lw tl, iv1, lv1)) → MR' im lw tl iv r (v, A) := by
          intro r v q5
          obtain ⟨x, y, c1, c2, c3⟩ := mq3 h0 g2 g3 (fun a k q => g4 a k (by rcases q with q | ⟨q, r⟩ <;> simp at * <;> omega) (by rcases q with q | ⟨q, r⟩ <;> simp at * <;> omega)) g5 (g4.out (by intro x hx; simp at hx; omega)) q5
          exact ⟨x, y, c1, c2, (out0 iv).tr c3⟩
        refine fin ?_
        cases hb : bst none (showL A a td) with
        | none => rw [if_pos (show bI0 none = nI 100000000 from rfl), if_pos (show bI0 none = nI 100000000 from rfl)]; rfl
        | some b =>
          obtain ⟨b6, br⟩ := g6 b hb
          have ne : ¬ bI0 (some b) = nI 100000000 := fun e => by
            have e : nI b.1 = nI 100000000 := e
            have := congrArg Int32.toNatClampNeg e
            rw [nI_clamp (by omega), nI_clamp (by omega)] at this; omega
          rw [if_neg ne]
          rw [show shoV (some b) (pc6 td) i = (if i = -1 then nI b.1 else if inV i (nI (pc6 td) - nI 1) = true then b.2 i.toNatClampNeg else -1) from rfl]
          by_cases c1 : i = -1
          · rw [if_pos c1, if_pos c1, if_neg ne]; rfl
          · rw [if_neg c1, if_neg c1]
            have st : ∀ (c j : Nat), j < 6 → run X (call X xT (d + 39)) false 1 xc279 81 [some (.inr (.inr (some 46))), some (.inl (nI a)), some (.inl (nI td)), some (.inl i), some (.inl (bI0 (some b))), some (.inl (nI c)), some (.inl (nI j))] [] (SS im lw tl, iv1, lv1) = run X (call X xT (d + 39)) false 1 xc279 81 [some (.inr (.inr (some 46))), some (.inl (nI a)), some (.inl (nI td)), some (.inl i), some (.inl (bI0 (some b))), some (.inl (nI (c + if td.testBit j = true then 1 else 0))), some (.inl (nI (j + 1)))] [] (SS im lw tl, iv1, lv1) := by
              intro c j hj
              rw [sg279_81, if_neg (nI_ge hj (by omega)), m_is X (d + 38), bI_some, sg279_96, b2i_ite, bit_nI td (by omega) j (by omega)]
              by_cases e : td.testBit j = true
              · rw [if_pos e, if_pos e, nI_add, nI_add]
              · rw [if_neg e, if_neg e, nI_add, nI_add]
            have ec : 0 + (if td.testBit 0 = true then 1 else 0) + (if td.testBit 1 = true then 1 else 0) + (if td.testBit 2 = true then 1 else 0) + (if td.testBit 3 = true then 1 else 0) + (if td.testBit 4 = true then 1 else 0) + (if td.testBit 5 = true then 1 else 0) = pc6 td := by unfold pc6; omega
            rw [st 0 0 (by omega), st _ (0 + 1) (by omega), st _ (0 + 1 + 1) (by omega), st _ (0 + 1 + 1 + 1) (by omega), st _ (0 + 1 + 1 + 1 + 1) (by omega), st _ (0 + 1 + 1 + 1 + 1 + 1) (by omega)]
            simp only [Nat.zero_add, Nat.reduceAdd] at ec ⊢
            rw [ec, sg279_81, if_pos (nI_le (by omega) (by omega))]
            rcases in_row p6 i with ⟨e, k, hk, rfl⟩ | ⟨e, e2⟩
            · rw [if_pos e, if_neg (nI_ge (by omega) (by omega)), if_pos (inb_nI (by omega) (by omega)), nI_clamp (by omega), br k hk]
            · rw [if_neg (show ¬ inV i (nI (pc6 td) - nI 1) = true by rw [e]; decide)]
              rcases e2 with e2 | e2
              · exfalso
                apply c1
                have x1 := ci
                rw [Int32.le_iff_toInt_le, show (-1 : Int32).toInt = -1 by decide] at x1
                rw [fb_lt, show (0 : Int32).toInt = 0 by decide] at e2
                apply Int32.toInt_inj.mp
                rw [show (-1 : Int32).toInt = -1 by decide]; omega
              · rw [if_pos e2]
      · rw [if_neg ci]
        have e : shoV (bst none (showL A a td)) (pc6 td) i = -1 := by
          unfold shoV
          cases bst none (showL A a td) with
          | none => rfl
          | some b =>
            show (if i = -1 then _ else _) = _
            rw [if_neg (fun e => ci (by rw [e]; decide)), if_neg]
            unfold inV
            rw [decide_eq_true_eq]
            intro q
            apply q.1
            rw [Int32.le_iff_toInt_le, show (-1 : Int32).toInt = -1 by decide] at ci
            rw [fb_lt, show (0 : Int32).toInt = 0 by decide]; omega
        rw [e]
        exact mq h rfl
    · rw [if_neg hx, if_neg hx]
      exact mq h rfl
  · rw [if_neg ht, if_neg ht]
    exact mq h rfl
theorem S_show (t x i : Int32) : stepOK 143 279 [.inl t, .inl x, .inl i] := step_of (C_show t x i) (M_show t x i) (fun A h => h)
