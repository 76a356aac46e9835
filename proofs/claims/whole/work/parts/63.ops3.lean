/-! calls: done, forget, the tape, feud, drawn, count -/
def stD (A : St) (n : Nat) (dd : Sc) : St := ((A.1.1, (n, dd), A.1.2.2), A.2)
def addD (dd : Sc) (n : Nat) (a b c k : Int32) : Sc := pu (pu (pu (pu dd (4 * n) a) (4 * n + 1) b) (4 * n + 2) c) (4 * n + 3) k
def sp_done (a t p k : Int32) (A : St) : Int32 × St := if (inV a (nI 99) && inV k (nI 2)) = true then (if (hasV (nI (nT A.1.1)) t && hasV (nI (nP A.1.1)) p) = true then (if A.1.2.1.1 = 10 then rfs 3 A else (nI (A.1.2.1.1 + 1), stS (stD A (A.1.2.1.1 + 1) (addD A.1.2.1.2 A.1.2.1.1 a t p k)) (nI 0))) else rfs 1 A) else rfs 0 A
theorem C_done (a t p k : Int32) : CSpec 157 [.inl a, .inl t, .inl p, .inl k] (sp_done a t p k) := by
  intro X hX d im lw tl iv lv A h ho
  show CR' im lw tl iv lv _ _
  obtain ⟨p0, p1, t0, t1, hk⟩ := cfacts h ho
  rw [tr157, c_within X (d + 38), bI_some, sg157_6, b2i_ite]
  unfold sp_done
  cases hx : inV a (nI 99)
  · rw [if_neg (by decide), Bool.false_and, if_neg (by decide)]
    exact crf h (i := 0) (by decide) (by rw [c_rf0 hX, bI_some, sg157_23])
  rw [if_pos rfl, Bool.true_and, c_within X (d + 38), bI_some, sg157_15, b2i_ite]
  by_cases hy : inV k (nI 2) = true
  · rw [if_pos hy, if_pos hy, c_hasT (sc2 im lw tl), bI_some, sg157_35, b2i_ite, t0]
    cases ht : hasV (nI (nT A.1.1)) t
    · rw [if_neg (by decide), Bool.false_and, if_neg (by decide)]
      exact crf h (i := 1) (by decide) (by rw [c_rf1 hX, bI_some, sg157_58])
    rw [if_pos rfl, Bool.true_and, c_hasP (sc2 im lw tl), bI_some, sg157_49, b2i_ite, p0]
    by_cases hp : hasV (nI (nP A.1.1)) p = true
    · rw [if_pos hp, if_pos hp, tr158, bI_some, sg157_69, h.2.1.2.1]
      have h10 := ho.1.2.1.1
      by_cases hn : A.1.2.1.1 = 10
      · rw [if_pos hn, if_neg (nI_nlt (by omega) (by omega))]
        exact crf h (i := 3) (by decide) (by rw [c_rf3 hX, bI_some, sg157_80])
      · have hn2 : A.1.2.1.1 < 10 := by omega
        rw [if_neg hn, if_pos (nI_lt (by omega) (by omega)), tr159, h.2.1.2.1, if_neg (nI_ge hn2 (by omega)), pk_mul, nI_add, nI_add, nI_add, nI_add, nI_add, if_pos (inb_nI (by omega) (by omega)), if_pos (inb_nI (by omega) (by omega)), if_pos (inb_nI (by omega) (by omega)), if_pos (inb_nI (by omega) (by omega)), bI_some, sg157_97, tr22, bI_some, sg157_100, nI_clamp (by omega), nI_clamp (by omega), nI_clamp (by omega), nI_clamp (by omega)]
        obtain ⟨q1, q2, q3, q4, q5, q6, q7⟩ := h.2.1
        have e : ∀ x, x ≠ 4 → x ≠ 5 → (upd2 (upd2 (upd2 (upd2 (upd2 iv 5 (A.1.2.1.1 * 4 + 0) a) 5 (A.1.2.1.1 * 4 + 1) t) 5 (A.1.2.1.1 * 4 + 2) p) 5 (A.1.2.1.1 * 4 + 3) k) 4 1 (nI (A.1.2.1.1 + 1))) x = iv x := fun x h1 h2 => by rw [upd2_off _ _ _ _ h1, upd2_off _ _ _ _ h2, upd2_off _ _ _ _ h2, upd2_off _ _ _ _ h2, upd2_off _ _ _ _ h2]
        refine ⟨_, lv, rfl, RelC.st (h.wd (W := (A.1.1, (A.1.2.1.1 + 1, addD A.1.2.1.2 A.1.2.1.1 a t p k), A.1.2.2)) ⟨?_, ?_, ?_, ?_, ?_, ?_, ?_⟩ (fun x _ _ h3 h4 _ => e x h3 h4)) _, ?_, midL.rf⟩
        · rw [e 3 (by decide) (by decide)]; exact q1
        · rw [upd2_self]
        · intro j hj
          rw [upd2_off _ _ _ _ (show 5 ≠ 4 by decide), upd2_rw, upd2_rw, upd2_rw, upd2_rw]
          show _ = addD A.1.2.1.2 A.1.2.1.1 a t p k j
          unfold addD
          rw [show A.1.2.1.1 * 4 + 0 = 4 * A.1.2.1.1 by omega, show A.1.2.1.1 * 4 = 4 * A.1.2.1.1 by omega]
          simp only [pu]
          rw [q3 j hj]
        · rw [e 6 (by decide) (by decide)]; exact q4
        · rw [e 1 (by decide) (by decide)]; exact q5
        · rw [e 1 (by decide) (by decide)]; exact q6
        · intro n hn
          obtain ⟨r, w1, w2, w3⟩ := q7 n hn
          exact ⟨r, w1, w2, w3.mo (Nat.le_refl _) (fun _ _ h => h) (fun x _ hx => ⟨rfl, e x (by have := hx.1; omega) (by have := hx.1; omega)⟩)⟩
        · exact (((((mid_upd _ _ _ (by decide)).tr (mid_upd _ _ _ (by decide))).tr (mid_upd _ _ _ (by decide))).tr (mid_upd _ _ _ (by decide))).tr (mid_upd _ _ _ (by decide))).tr (mid_upd _ _ _ (by decide))
    · rw [if_neg hp, if_neg hp]
      exact crf h (i := 1) (by decide) (by rw [c_rf1 hX, bI_some, sg157_58])
  · rw [if_neg hy, if_neg hy]
    exact crf h (i := 0) (by decide) (by rw [c_rf0 hX, bI_some, sg157_23])
theorem M_done (a t p k : Int32) : MSpec 290 [.inl a, .inl t, .inl p, .inl k] (sp_done a t p k) := by
  intro X d im lw tl iv lv A h ho
  show MR' im lw tl iv _ _
  have h0 := h.thr (nI 0)
  obtain ⟨p0, p1, t0, t1, hk, he, hk2, h20⟩ := mfacts h0 ho
  rw [tr290]
  generalize hg : upd2 iv 46 0 (nI 0) = ivz at h0 p0 t0 he hk2 h20
  have o0 : outI iv ivz := hg ▸ out0 iv
  rw [m_in X (d + 38), bI_some, sg290_14, b2i_ite, in_inV a (top := 99) (by decide)]
  unfold sp_done
  cases hx : inV a (nI 99)
  · rw [if_neg (by decide), Bool.false_and, if_neg (by decide)]
    exact mrf h0 o0 (i := 0) (by decide) (by rw [m_rf0, bI_some, sg290_35])
  rw [if_pos rfl, Bool.true_and, m_in X (d + 38), bI_some, sg290_27, b2i_ite, in_inV k (top := 2) (by decide)]
  by_cases hy : inV k (nI 2) = true
  · rw [if_pos hy, if_pos hy, m_isT X (d + 37) im lw tl _ lv t1 t0, bI_some, sg290_41, b2i_ite]
    cases ht : hasV (nI (nT A.1.1)) t
    · rw [if_neg (by decide), Bool.false_and, if_neg (by decide)]
      exact mrf h0 o0 (i := 1) (by decide) (by rw [m_rf1, bI_some, sg290_58])
    rw [if_pos rfl, Bool.true_and, m_isP X (d + 37) im lw tl _ lv p1 p0, bI_some, sg290_49, b2i_ite]
    by_cases hp : hasV (nI (nP A.1.1)) p = true
    · rw [if_pos hp, if_pos hp, h0.1.2.1]
      have h10 := ho.1.2.1.1
      by_cases hn : A.1.2.1.1 = 10
      · rw [if_pos hn, if_pos (by rw [hn])]
        exact mrf h0 o0 (i := 3) (by decide) (by rw [m_rf3, bI_some, sg290_80])
      · have hn2 : A.1.2.1.1 < 10 := by omega
        rw [if_neg hn, if_neg (fun q => hn ((nI_eq (by omega) (by omega)).mp q)), pk_mul, nI_add, nI_add, nI_add, nI_add, if_pos (ib5k (by omega)), if_pos (ib5k (by omega)), if_pos (ib5k (by omega)), if_pos (ib5k (by omega)), nI_clamp (by omega), nI_clamp (by omega), nI_clamp (by omega), nI_clamp (by omega), nI_add, upd2_ne _ _ _ _ (show ¬ (48 = 48 ∧ 2 = 68 + 4 * A.1.2.1.1 + 3) by omega), upd2_ne _ _ _ _ (show ¬ (48 = 48 ∧ 2 = 68 + 4 * A.1.2.1.1 + 2) by omega), upd2_ne _ _ _ _ (show ¬ (48 = 48 ∧ 2 = 68 + 4 * A.1.2.1.1 + 1) by omega), upd2_ne _ _ _ _ (show ¬ (48 = 48 ∧ 2 = 68 + 4 * A.1.2.1.1) by omega), h0.1.2.1, nI_add, m_tellP X _ im lw tl _ lv (nI_p0 (by omega)), bI_some, sg290_158]
        obtain ⟨q1, q2, q3, q4, q5, q6, q7⟩ := h0.1
        refine ⟨_, lv, rfl, RelM.st (h0.wd (W := (A.1.1, (A.1.2.1.1 + 1, addD A.1.2.1.2 A.1.2.1.1 a t p k), A.1.2.2)) ?_ ?_ h0.c) _, ?_⟩
        · rw [upd2_rw, upd2_rw, upd2_rw, upd2_rw, upd2_rw]
          have e : ∀ i, i ≠ 2 → (i < 68 + 4 * A.1.2.1.1 ∨ 68 + 4 * A.1.2.1.1 + 3 < i) → pu (pu (pu (pu (pu (ivz 48) (68 + 4 * A.1.2.1.1) a) (68 + 4 * A.1.2.1.1 + 1) t) (68 + 4 * A.1.2.1.1 + 2) p) (68 + 4 * A.1.2.1.1 + 3) k) 2 (nI (A.1.2.1.1 + 1)) i = ivz 48 i := fun i h1 h2 => by
            rw [pu_n _ _ _ h1, pu_n _ _ _ (by omega), pu_n _ _ _ (by omega), pu_n _ _ _ (by omega), pu_n _ _ _ (by omega)]
          refine ⟨fun j hj => ?_, by rw [pu_s], fun j hj => ?_, fun p hp => ?_, ?_, ?_, fun n hn => (q7 n hn).row (by omega) (fun i hi => e i (by omega) (by omega))⟩
          · rw [q1 j hj]; unfold fM; rw [e _ (mx_sc hj).2.1 (by have := (mx_sc hj).1; omega)]
          · show _ = addD A.1.2.1.2 A.1.2.1.1 a t p k j
            unfold addD
            have q3 := q3 j hj
            simp only [pu]
            rw [if_neg (show ¬ 68 + j = 2 by omega)]
            by_cases j3 : j = 4 * A.1.2.1.1 + 3
            · rw [if_pos (by omega), if_pos j3]
            rw [if_neg (by omega), if_neg j3]
            by_cases j2 : j = 4 * A.1.2.1.1 + 2
            · rw [if_pos (by omega), if_pos j2]
            rw [if_neg (by omega), if_neg j2]
            by_cases j1 : j = 4 * A.1.2.1.1 + 1
            · rw [if_pos (by omega), if_pos j1]
            rw [if_neg (by omega), if_neg j1]
            by_cases j0 : j = 4 * A.1.2.1.1
            · rw [if_pos (by omega), if_pos j0]
            rw [if_neg (by omega), if_neg j0]
            exact q3
          · rw [e _ (by omega) (by omega)]; exact q4 p hp
          · rw [e _ (by omega) (by omega)]; exact q5
          · rw [e _ (by omega) (by omega)]; exact q6
        · intro x j q
          have hx48 : x ≠ 48 := by rcases q with q | ⟨q, r⟩ <;> simp at * <;> omega
          rw [upd2_off _ _ _ _ hx48, upd2_off _ _ _ _ hx48, upd2_off _ _ _ _ hx48, upd2_off _ _ _ _ hx48, upd2_off _ _ _ _ hx48]
        · exact o0.tr ((((((out_upd _ _ _ (by decide) (by decide)).tr (out_upd _ _ _ (by decide) (by decide))).tr (out_upd _ _ _ (by decide) (by decide))).tr (out_upd _ _ _ (by decide) (by decide))).tr (out_upd _ _ _ (by decide) (by decide))).tr (out_upd _ _ _ (by decide) (by decide)))
    · rw [if_neg hp, if_neg hp]
      exact mrf h0 o0 (i := 1) (by decide) (by rw [m_rf1, bI_some, sg290_58])
  · rw [if_neg hy, if_neg hy]
    exact mrf h0 o0 (i := 0) (by decide) (by rw [m_rf0, bI_some, sg290_35])
theorem O_done (a t p k : Int32) : ∀ A, OKA A → OKA (sp_done a t p k A).2 := by
  intro A h
  unfold sp_done
  split
  · rename_i h1
    split
    · rename_i h2
      split
      · exact h
      · rename_i h3
        rw [Bool.and_eq_true] at h1 h2
        obtain ⟨⟨b1, b2, b3, b4, b5⟩, a2, a3, a4, a5⟩ := h
        obtain ⟨mt, ht, rfl⟩ := hasV_of (by have := b1.1.nt.2; omega) h2.1
        obtain ⟨mp, hp, rfl⟩ := hasV_of (by have := b1.1.np.2; omega) h2.2
        obtain ⟨mk, hk, rfl⟩ := inV_of (by decide) h1.2
        refine ⟨⟨b1, ⟨by show A.1.2.1.1 + 1 ≤ 10; have := b2.1; omega, fun i hi => ?_⟩, b3, b4, b5⟩, a2, a3, a4, a5⟩
        show ∃ t p k, t < nT A.1.1 ∧ p < nP A.1.1 ∧ k ≤ 2 ∧ addD A.1.2.1.2 A.1.2.1.1 a (nI mt) (nI mp) (nI mk) (4 * i + 1) = nI t ∧ addD A.1.2.1.2 A.1.2.1.1 a (nI mt) (nI mp) (nI mk) (4 * i + 2) = nI p ∧ addD A.1.2.1.2 A.1.2.1.1 a (nI mt) (nI mp) (nI mk) (4 * i + 3) = nI k
        have hi : i < A.1.2.1.1 + 1 := hi
        by_cases e : i = A.1.2.1.1
        · subst e
          refine ⟨mt, mp, mk, ht, hp, hk, ?_, ?_, ?_⟩
          · unfold addD; rw [pu_n _ _ _ (by omega), pu_n _ _ _ (by omega), pu_s]
          · unfold addD; rw [pu_n _ _ _ (by omega), pu_s]
          · unfold addD; rw [pu_s]
        · obtain ⟨t, p, k, c1, c2, c3, c4, c5, c6⟩ := b2.2 i (by omega)
          refine ⟨t, p, k, c1, c2, c3, ?_, ?_, ?_⟩ <;> unfold addD <;> rw [pu_n _ _ _ (by omega), pu_n _ _ _ (by omega), pu_n _ _ _ (by omega), pu_n _ _ _ (by omega)] <;> assumption
    · exact h
  · exact h
theorem S_done (a t p k : Int32) : stepOK 157 290 [.inl a, .inl t, .inl p, .inl k] := step_of (C_done a t p k) (M_done a t p k) (O_done a t p k)
/-- forget -/
def sp_forget (A : St) : Int32 × St := (nI A.1.2.1.1, stD A 0 A.1.2.1.2)
theorem S_forget : stepOK 160 291 [] := by
  refine step_of (F := sp_forget) ?_ ?_ ?_
  · intro X hX d im lw tl iv lv A h ho
    obtain ⟨q1, q2, q3, q4, q5, q6, q7⟩ := h.2.1
    have e : ∀ x, x ≠ 4 → (upd2 iv 4 1 (nI 0)) x = iv x := fun x h1 => upd2_off _ _ _ _ h1
    refine ⟨upd2 iv 4 1 (nI 0), lv, by rw [tr160, tr158, bI_some, sg160_10, tr161, bV_some, sg160_21, q2]; rfl, h.wd (W := (A.1.1, (0, A.1.2.1.2), A.1.2.2)) ⟨?_, ?_, ?_, ?_, ?_, ?_, ?_⟩ (fun x _ _ h3 _ _ => e x h3), mid_upd _ _ _ (by decide), midL.rf⟩
    · rw [e 3 (by decide)]; exact q1
    · rw [upd2_self]
    · rw [e 5 (by decide)]; exact q3
    · rw [e 6 (by decide)]; exact q4
    · rw [e 1 (by decide)]; exact q5
    · rw [e 1 (by decide)]; exact q6
    · intro n hn
      obtain ⟨r, w1, w2, w3⟩ := q7 n hn
      exact ⟨r, w1, w2, w3.mo (Nat.le_refl _) (fun _ _ h => h) (fun x _ hx => ⟨rfl, e x (by have := hx.1; omega)⟩)⟩
  · intro X d im lw tl iv lv A h ho
    have h0 := h.thr (nI 0)
    obtain ⟨q1, q2, q3, q4, q5, q6, q7⟩ := h0.1
    refine ⟨upd2 (upd2 iv 46 0 (nI 0)) 48 2 (nI 0), lv, by rw [tr291, h.1.2.1]; rfl, h0.wd (W := (A.1.1, (0, A.1.2.1.2), A.1.2.2)) ?_ ?_ h0.c, (out0 iv).tr (out_upd _ _ _ (by decide) (by decide))⟩
    · rw [upd2_rw]
      exact ⟨h0.1.pu _ (by omega), by rw [pu_s], fun j hj => by rw [pu_n _ _ _ (by omega)]; exact q3 j hj, fun p hp => by rw [pu_n _ _ _ (by omega)]; exact q4 p hp, by rw [pu_n _ _ _ (by omega)]; exact q5, by rw [pu_n _ _ _ (by omega)]; exact q6, fun n hn => (q7 n hn).row (by omega) (fun i hi => pu_n _ _ _ (by omega))⟩
    · intro x j q
      exact upd2_ne _ _ _ _ (by rcases q with q | ⟨q, r⟩ <;> simp at * <;> omega)
  · intro A h
    obtain ⟨⟨b1, b2, b3, b4, b5⟩, a2, a3, a4, a5⟩ := h
    exact ⟨⟨b1, ⟨Nat.zero_le _, fun i hi => absurd hi (Nat.not_lt_zero _)⟩, b3, b4, b5⟩, a2, a3, a4, a5⟩
/-- end -/
def stT (A : St) (T : Nat × Sc) : St := (A.1, A.2.1, T, A.2.2.2)
def sp_end (n : Int32) (A : St) : Int32 × St := if inV n (nI A.2.2.1.1) = true then (n, stT A (n.toNatClampNeg, A.2.2.1.2)) else (-1, A)
theorem S_end (n : Int32) : stepOK 61 233 [.inl n] := by
  refine step_of (F := sp_end n) ?_ ?_ ?_
  · intro X hX d im lw tl iv lv A h ho
    show CR' im lw tl iv lv _ _
    have h9 := h.2.2.2.1.1
    have ht := ho.2.2.1.1
    unfold sp_end
    rw [tr61, tr62, h9]
    by_cases hn : inV n (nI A.2.2.1.1) = true
    · rw [if_pos hn]
      obtain ⟨m, hm, rfl⟩ := inV_of (by omega) hn
      rw [if_neg (nI_pos (by omega)), if_pos (nI_le hm (by omega)), bI_some, sg61_8, if_neg nI1_ne0, nI_clamp (by omega)]
      refine ⟨upd2 iv 9 1 (nI m), lv, rfl, h.tp (T := (m, A.2.2.1.2)) ⟨upd2_self _ _ _ _, fun j hj => ?_⟩ (fun a h1 _ => upd2_off _ _ _ _ h1), mid_upd _ _ _ (by decide), midL.rf⟩
      rw [upd2_off _ _ _ _ (by decide)]
      exact h.2.2.2.1.2 j (Nat.lt_of_lt_of_le hj hm)
    · rw [if_neg hn]
      refine cq h ?_
      by_cases l0 : n < 0
      · rw [if_pos l0, bI_some, sg61_8, if_pos nI0_eq0]
      · rw [if_neg l0, if_neg (fun q => hn (decide_eq_true ⟨l0, fun q2 => by rw [fb_le] at q; rw [fb_lt] at q2; omega⟩)), bI_some, sg61_8, if_pos nI0_eq0]
  · intro X d im lw tl iv lv A h ho
    show MR' im lw tl iv _ _
    have h0 := h.thr (nI 0)
    have h9 := h.2.2.1.1
    have ht := ho.2.2.1.1
    unfold sp_end
    rw [tr233, h9]
    by_cases hn : inV n (nI A.2.2.1.1) = true
    · rw [if_pos hn]
      obtain ⟨m, hm, rfl⟩ := inV_of (by omega) hn
      rw [if_neg (nI_pos (by omega)), if_pos (nI_le hm (by omega)), nI_clamp (by omega)]
      refine ⟨_, lv, rfl, h0.tp (T := (m, A.2.2.1.2)) ⟨upd2_self _ _ _ _, fun j hj => ?_⟩ (fun a k q => upd2_ne _ _ _ _ (by rcases q with q | ⟨q, r⟩ <;> simp at * <;> omega)) h0.c, (out0 iv).tr (out_upd _ _ _ (by decide) (by decide))⟩
      rw [upd2_off _ _ _ _ (by decide)]
      exact h0.2.2.1.2 j (Nat.lt_of_lt_of_le hj hm)
    · rw [if_neg hn]
      refine mq h ?_
      by_cases l0 : n < 0
      · rw [if_pos l0]
      · rw [if_neg l0, if_neg (fun q => hn (decide_eq_true ⟨l0, fun q2 => by rw [fb_le] at q; rw [fb_lt] at q2; omega⟩))]
  · intro A h
    unfold sp_end
    split
    · rename_i hn
      obtain ⟨a1, a2, a3, a4, a5⟩ := h
      have := a3.1
      obtain ⟨m, hm, rfl⟩ := inV_of (by omega) hn
      rw [nI_clamp (by omega)]
      exact ⟨a1, a2, ⟨Nat.le_trans hm a3.1, fun j hj => a3.2 j (Nat.lt_of_lt_of_le hj hm)⟩, a4, a5⟩
    · exact h
/-- feed -/
def byt (x : Int32) (s : Nat) : Int32 := (x >>> (nI s &&& 31)) &&& nI 255
theorem b255 : ∀ i : Fin 32, 8 ≤ i.val → (255#32)[i.val]'(i.isLt) = false := by decide
theorem byt_u (x : Int32) {s : Nat} (hs : s = 0 ∨ s = 8 ∨ s = 16 ∨ s = 24) : ((x.toUInt32 >>> ((nI s).toUInt32 &&& Int32.toUInt32 31)).toInt32) &&& nI 255 = byt x s := by
  unfold byt
  rw [← Int32.toBitVec_inj]
  rcases hs with rfl | rfl | rfl | rfl
  · show (x.toBitVec >>> (0 : Nat)) &&& 255#32 = (x.toBitVec.sshiftRight 0) &&& 255#32
    simp
  · show (x.toBitVec >>> (8 : Nat)) &&& 255#32 = (x.toBitVec.sshiftRight 8) &&& 255#32
    ext i hi
    simp [BitVec.getElem_sshiftRight]
    rcases Nat.lt_or_ge i 8 with q | q
    · rw [dif_pos (by omega), BitVec.getLsbD_eq_getElem]
    · have e : (255#32)[i] = false := b255 ⟨i, hi⟩ q
      rw [e, Bool.and_false, Bool.and_false]
  · show (x.toBitVec >>> (16 : Nat)) &&& 255#32 = (x.toBitVec.sshiftRight 16) &&& 255#32
    ext i hi
    simp [BitVec.getElem_sshiftRight]
    rcases Nat.lt_or_ge i 8 with q | q
    · rw [dif_pos (by omega), BitVec.getLsbD_eq_getElem]
    · have e : (255#32)[i] = false := b255 ⟨i, hi⟩ q
      rw [e, Bool.and_false, Bool.and_false]
  · show (x.toBitVec >>> (24 : Nat)) &&& 255#32 = (x.toBitVec.sshiftRight 24) &&& 255#32
    ext i hi
    simp [BitVec.getElem_sshiftRight]
    rcases Nat.lt_or_ge i 8 with q | q
    · rw [dif_pos (by omega), BitVec.getLsbD_eq_getElem]
    · have e : (255#32)[i] = false := b255 ⟨i, hi⟩ q
      rw [e, Bool.and_false, Bool.and_false]
