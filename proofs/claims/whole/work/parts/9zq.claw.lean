/-! law: the class's call -/
theorem C_law : CSpec2 68 [] sp_law := by
  intro X hX d im lw tl iv lv A h ho hlen
  show CR2 im lw tl iv lv _ _
  have h14 : iv 1 4 = nI A.1.2.2.2.1.1 := h.2.1.2.2.2.2.1
  have hm6 : A.1.2.2.2.1.1 ≤ 6 := ho.1.2.2.2.1
  rw [tr68, h14]
  unfold sp_law
  by_cases m6 : 6 ≤ A.1.2.2.2.1.1
  · rw [if_pos m6, if_neg (nI_nlt m6 (by omega)), tr66, bV_some, sg68_19, c_rf3 hX (d + 38), bI_some, sg68_25]
    exact CR2_of (crf2 (A := stTape A) (relC_tp h) (mid_upd _ _ _ (by decide)) midL.rf (i := 3) (by decide) rfl)
  rw [if_neg m6, if_pos (nI_lt (by omega) (by omega))]
  have hT := ho.2.2.1
  obtain ⟨hb1, hb2⟩ := bytF_ok hT
  have tx : txtC (bytF A.2.2.1) A.2.2.1.1 iv := ⟨h.2.2.2.1.1, hT.1, fun j hj => by rw [h.2.2.2.1.2 j hj]; exact hb1 j hj, hb2⟩
  obtain ⟨iv2, p, f2, g1, g0⟩ := c_reads (X := X) (im := im) (lw := lw) (tl := tl) (lv := lv) hX (d + 2) tx false
  have p : poT im lw tl lv (plF (bytF A.2.2.1) A.2.2.1.1) iv2 (txtR false A.2.2.1) (call X xT (d + 39) 69 [.inr (.inr (some 11)), .inl (nI 0)] (SS im lw tl, iv, lv)) := p
  cases hr : txtR false A.2.2.1 with
  | inl e =>
    rw [hr] at p
    obtain ⟨iv3, p1, p2, p3⟩ := p
    have f3 : fr [9, 11, 12, 13, 14, 15, 16] iv iv3 := f2.tr (p3.mo (by simp))
    rw [p1, bI_some, sg68_34, if_pos n0z, c_rf4 hX (d + 38), bI_some, sg68_43]
    exact CR2_of (crf2 (A := stFault (stTape A) _) (relC_rd h f3 (by rw [p3 9 (by decide)]; exact g1) p2) (f3.mid (by simp)) midL.rf (i := 4) (by decide) rfl)
  | inr gs =>
    rw [hr] at p
    obtain ⟨iv3, p1, p2, p3, p4, p5, p6, p7, p8, p9⟩ := p
    have f3 : fr [9, 11, 12, 13, 14, 15, 16] iv iv3 := f2.tr (p9.mo (by simp))
    have gok := (pText_ok (nt := ntF (bytF A.2.2.1) A.2.2.1.1) false (tkF_end _ _) 12 [] 0 0 gs (by omega) (Nat.zero_le _) (fun g hg => by cases hg) hr).2
    have r3 : RelC (stFault (stTape A) (-1)) im lw tl iv3 := relC_rd h f3 (by rw [p9 9 (by decide)]; exact g1) p2
    rw [p1, bI_some, sg68_34, if_neg n1z, tr104]
    show CR2 im lw tl iv lv (run X _ false 1 xc68 56 _ [.inr (.inr (some 12)), .inr (.inr (some 1)), .inr (.inr (some 0))] _) _
    rw [sg68_56, objR_ok (show (SS im lw tl)[12]? = some (5, 4, [some 13, some 14, none, none]) from rfl) rfl]
    generalize hL : (SS im lw tl).length = L at hlen
    obtain ⟨iv4, lv4, t1, t2, t3, t4, t5, t6, t7⟩ := c_trim (X := X) (d := d + 37) im lw tl iv3 lv hL hlen p5 p4 p6 p3
    rw [t1]
    show CR2 im lw tl iv lv (run X _ false 1 xc68 59 _ [.inr (.inr (some (L + 2))), .inr (.inr (some 1)), .inr (.inr (some 0))] _) _
    generalize htl : tl ++ [(50, (cA gs).length, []), (50, gs.length * 5, []), (5, 4, [some L, some (L + 1), none, none])] = tl1 at t1
    have hL79 : 79 + tl.length = L := by rw [← hL, SS_len]
    have e14 : iv4 1 4 = nI A.1.2.2.2.1.1 := by rw [t6 1 (by omega)]; exact r3.2.1.2.2.2.2.1
    -- the cells
    have get0 : ∀ (lx : List (Option Nat)) a, a < L → a ≠ 7 → (SS im lx tl1)[a]? = (SS im lw tl)[a]? := fun lx a ha h7 => by
      have e1 : SS im lx tl1 = (SS im lw tl ++ [(50, (cA gs).length, []), (50, gs.length * 5, []), (5, 4, [some L, some (L + 1), none, none])]).set 7 (54, 6, lx) := by rw [← htl]; rfl
      rw [e1, List.getElem?_set_ne (Ne.symm h7), List.getElem?_append_left (by omega)]
    have getN : ∀ (lx : List (Option Nat)) i c, ([(50, (cA gs).length, []), (50, gs.length * 5, []), (5, 4, [some L, some (L + 1), none, none])] : List XC)[i]? = some c → (SS im lx tl1)[L + i]? = some c := fun lx i c hc => by
      have e1 : SS im lx tl1 = (SS im lw tl ++ [(50, (cA gs).length, []), (50, gs.length * 5, []), (5, 4, [some L, some (L + 1), none, none])]).set 7 (54, 6, lx) := by rw [← htl]; rfl
      rw [e1, List.getElem?_set_ne (by omega)]
      have := lst_r (T := SS im lw tl) hc
      rw [hL] at this
      exact this
    have hlw : lw.length = 6 := h.1.2.1
    rw [sg68_59, tr107p, e14, if_neg (nI_ge (by omega) (by omega)), if_pos (inb_nI (by omega) (by omega)), nI_clamp (by omega), if_pos ⟨by
      have : (SS im lw tl1)[L + 2]? = some (5, 4, [some L, some (L + 1), none, none]) := getN lw 2 _ rfl
      simp [fitR, this], by omega⟩, nI_add, pk_sub (by omega), show A.1.2.2.2.1.1 + 1 - 1 = A.1.2.2.2.1.1 by omega, bI_some, sg68_62, tr22, bI_some, sg68_65]
    generalize hlx : lw.set A.1.2.2.2.1.1 (some (L + 2)) = lx
    have gD : ∀ k, lx.getD k none = if k = A.1.2.2.2.1.1 then some (L + 2) else lw.getD k none := fun k => by rw [← hlx]; exact getD_set2 _ (by omega)
    have z5 : ∀ a, a ≠ 1 → (upd2 iv4 1 4 (nI (A.1.2.2.2.1.1 + 1))) a = iv4 a := fun a ha => upd2_off _ _ _ _ ha
    have z4 : ∀ a, a < L → a ≠ 1 → (upd2 iv4 1 4 (nI (A.1.2.2.2.1.1 + 1))) a = iv3 a := fun a ha h1 => by rw [z5 a h1, t6 a ha]
    obtain ⟨h0, h1, h2, h3, h4, h5, h6⟩ := r3
    have rs0 : ∀ rs, rsOK (SS im lw tl) rs → rsOK (SS im lx tl1) rs := fun rs hr => rsOK.mo hr (fun a n l ha => get0 lx a (by rw [← hL]; exact getE_lt ha) (Ne.symm (ne_k (show (SS im lw tl)[7]? = some (54, 6, lw) from rfl) ha (by show (54 : Nat) ≠ 5; decide))))
    have ll : (SS im lw tl).length ≤ (SS im lx tl1).length := by rw [SS_len, SS_len, ← htl, List.length_append]; omega
    have eP : ∀ x, x < (SS im lw tl).length → PZ im x → (SS im lx tl1)[x]? = (SS im lw tl)[x]? ∧ (upd2 iv4 1 4 (nI (A.1.2.2.2.1.1 + 1))) x = iv3 x := fun x hx hp => ⟨get0 lx x (by omega) (by have := hp.1; omega), z4 x (by omega) (by have := hp.1; omega)⟩
    have im7 : ∀ c, some c ∈ im → c + 7 ≤ L := fun c hc => by
      have h2l : im.length = 2 := h0.1
      obtain ⟨k, hk, e⟩ := List.mem_iff_getElem.mp hc
      have ek : im.getD k none = some c := by rw [List.getD_eq_getElem?_getD, List.getElem?_eq_getElem hk, e]; rfl
      rcases h2.1 k (by omega) with ⟨-, q⟩ | ⟨w, b', rs', -, q, q3, -⟩
      · rw [q] at ek; cases ek
      · rw [q] at ek; injection ek with ek; subst ek
        have := getE_lt q3.2.2.2.2.2.2.1
        omega
    have pz : ∀ a, L ≤ a → PZ im a := fun a ha => ⟨by omega, fun c hc => Or.inr (by have := im7 c hc; omega)⟩
    refine ⟨im, lx, tl1, upd2 (upd2 iv4 1 4 (nI (A.1.2.2.2.1.1 + 1))) 0 17 (nI 0), lv4, rfl, RelC.st (A := stFault (stTape (stW A (addLw A.1 (lawW gs)))) (-1)) ?_ _, ?_, ?_, ?_, ?_⟩
    · refine ⟨⟨h0.1, by rw [← hlx, List.length_set]; exact hlw, fun k r hk hr => ?_⟩, ⟨?_, ?_, ?_, ?_, ?_, ?_, fun k hk => ?_⟩, ⟨fun k hk => ?_, h2.2⟩, ?_, h4.fr (z4 _ (by omega) (by omega)) (z4 _ (by omega) (by omega)) (z4 _ (by omega) (by omega)), ?_, ?_⟩
      · rw [gD] at hr
        by_cases e : k = A.1.2.2.2.1.1
        · rw [if_pos e] at hr; injection hr with hr; subst hr
          exact ⟨by omega, 4, _, getN lx 2 _ rfl⟩
        · rw [if_neg e] at hr
          exact rs0 lw h0.2.2 k r hk hr
      · rw [z4 3 (by omega) (by omega)]; exact h1.1
      · rw [z4 4 (by omega) (by omega)]; exact h1.2.1
      · rw [z4 5 (by omega) (by omega)]; exact h1.2.2.1
      · rw [z4 6 (by omega) (by omega)]; exact h1.2.2.2.1
      · rw [upd2_self]; rfl
      · rw [upd2_ne _ _ _ _ (by omega), t6 1 (by omega)]; exact h1.2.2.2.2.2.1
      · have hk : k < A.1.2.2.2.1.1 + 1 := hk
        rw [gD]
        show ∃ r, _ = some r ∧ r < 1000000 ∧ lawP (PZ im) (SS im lx tl1) _ r ((fun k => if k = A.1.2.2.2.1.1 then lawW gs else A.1.2.2.2.1.2 k) k).1 ((fun k => if k = A.1.2.2.2.1.1 then lawW gs else A.1.2.2.2.1.2 k) k).2
        simp only
        by_cases e : k = A.1.2.2.2.1.1
        · rw [if_pos e, if_pos e]
          refine ⟨L + 2, rfl, by omega, fun S2 iv2 hag => ?_⟩
          have ll2 : (SS im lx tl1).length = L + 3 := by rw [SS_len, ← htl, List.length_append]; show 79 + (tl.length + 3) = _; omega
          have c0 := hag L (by omega) (pz L (Nat.le_refl _))
          have c1 := hag (L + 1) (by omega) (pz _ (by omega))
          have c2 := hag (L + 2) (by omega) (pz _ (by omega))
          have k0 : S2[L]? = some (50, (cA gs).length, []) := c0.1.trans (getN lx 0 _ rfl)
          have k1 : S2[L + 1]? = some (50, gs.length * 5, []) := c1.1.trans (getN lx 1 _ rfl)
          have k2 : S2[L + 2]? = some (5, 4, [some L, some (L + 1), none, none]) := c2.1.trans (getN lx 2 _ rfl)
          have v0 : iv2 L = iv4 L := c0.2.trans (z5 L (by omega))
          have v1 : iv2 (L + 1) = iv4 (L + 1) := c1.2.trans (z5 _ (by omega))
          have v2 : iv2 (L + 2) = iv4 (L + 2) := c2.2.trans (z5 _ (by omega))
          refine Or.inr ⟨L + 2, fun k => (cA gs).getD k (0, 0), (cA gs).length, iv2 (L + 1), rfl, by omega, ⟨L, (cA gs).length, _, k2, k0, by omega, by rw [v2]; exact t4, Nat.le_refl _, fun i hi => ?_⟩, p6, ⟨L, L + 1, gs.length * 5, _, k2, k1, by omega, by rw [v2]; exact t5, (by show 5 * gs.length ≤ gs.length * 5; omega), by omega, p3, fun j hj => rfl⟩, law_plc gok p6 (fun j g hj k hk => ?_)⟩
          · have hget : (cA gs)[i]? = some ((cA gs).getD i (0, 0)) := by rw [List.getD_eq_getElem?_getD, List.getElem?_eq_getElem hi]; rfl
            obtain ⟨q1, q2⟩ := law_cd gok p6 i hi
            exact ⟨by rw [v0, t2 i hi, p7 i _ hget], q1, q2⟩
          · have hjl : j < gs.length := (List.getElem?_eq_some_iff.mp hj).1
            rw [v1, t3 _ (by omega)]
            exact p8 j g hj k hk
        · rw [if_neg e, if_neg e]
          obtain ⟨r, q1, q2, q3⟩ := h1.2.2.2.2.2.2 k (show k < A.1.2.2.2.1.1 by omega)
          exact ⟨r, q1, q2, q3.mo ll (fun _ _ h => h) eP⟩
      · rcases h2.1 k hk with q | ⟨w, b', rs', w1, w2, w3, w4⟩
        · exact Or.inl q
        · have hb79 := w3.2.2.2.2.2.2.2.2.1
          have hb7 := getE_lt w3.2.2.2.2.2.2.1
          exact Or.inr ⟨w, b', rs', w1, w2, w3.mo (fun a ha hb => get0 lx a (by omega) (by omega)) (rs0 rs' w3.2.2.2.2.2.2.2.2.2.2), w4.mo ll (fun _ _ h => h) eP (z4 _ (by omega) (by omega)) (z4 _ (by omega) (by omega)) (z4 _ (by omega) (by omega)) (z4 _ (by omega) (by omega)) (z4 _ (by omega) (by omega))⟩
      · rw [z4 9 (by omega) (by omega)]
        exact ⟨h3.1, fun j hj => by have hj : j < 0 := hj; omega⟩
      · rw [z4 41 (by omega) (by omega)]; exact h5
      · unfold miscC
        rw [z4 11 (by omega) (by omega), z4 0 (by omega) (by omega), z4 45 (by omega) (by omega)]
        exact h6
    · exact fun a h1 h2 => by rw [upd2_off _ _ _ _ (by omega), z5 a (by omega), t6 a (by omega), f3 a (by simp; omega)]
    · exact fun a h1 h2 => t7 a (by omega)
    · rw [SS_len, ← htl, List.length_append]; show 79 + (tl.length + 3) ≤ _; omega
    · refine slt_SS _ _ _ _ _ _ ?_
      rw [← htl, slt_cat]
      show slt tl + ((cA gs).length + (gs.length * 5 + (4 + 0))) ≤ slt tl + 1000
      omega
