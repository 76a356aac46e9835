theorem govL_ne (A : St) : ∃ b, bst none (govL A) = some b := by
  rcases bst_is (govL A) with ⟨e, -⟩ | ⟨b, e, -⟩
  · exfalso
    have ne : ∀ (m p : Nat) (r : Sc) (c : Nat), lev (nT A.1.1 + 1) (govS A.1.1 (lawOf A.1) (nT A.1.1)) m p r c ≠ [] := by
      intro m
      induction m with
      | zero => intro p r c q; cases q
      | succ m ih =>
        intro p r c q
        have last : ∀ (k j : Nat), j + k = nT A.1.1 → levI (lev (nT A.1.1 + 1) (govS A.1.1 (lawOf A.1) (nT A.1.1)) m (p + 1)) (govS A.1.1 (lawOf A.1) (nT A.1.1) p) p r c (k + 1) j ≠ [] := by
          intro k
          induction k with
          | zero =>
            intro j hj q
            have : j = nT A.1.1 := by omega
            subst this
            simp only [levI] at q
            rw [List.append_nil, show govS A.1.1 (lawOf A.1) (nT A.1.1) p (nT A.1.1) r = some 1 from if_pos rfl] at q
            exact ih _ _ _ q
          | succ k ik =>
            intro j hj q
            rw [show levI (lev (nT A.1.1 + 1) (govS A.1.1 (lawOf A.1) (nT A.1.1)) m (p + 1)) (govS A.1.1 (lawOf A.1) (nT A.1.1) p) p r c (k + 1 + 1) j = levX (lev (nT A.1.1 + 1) (govS A.1.1 (lawOf A.1) (nT A.1.1)) m (p + 1)) p r c j (govS A.1.1 (lawOf A.1) (nT A.1.1) p j r) ++ levI (lev (nT A.1.1 + 1) (govS A.1.1 (lawOf A.1) (nT A.1.1)) m (p + 1)) (govS A.1.1 (lawOf A.1) (nT A.1.1) p) p r c (k + 1) (j + 1) from rfl] at q
            exact ik (j + 1) (by omega) (List.append_eq_nil_iff.mp q).2
        exact last (nT A.1.1) 0 (by omega) q
    exact ne _ _ _ _ e
  · exact ⟨b, e⟩
theorem M_gov (x : Int32) : MSpec 298 [.inl x] (sp_gov x) := by
  intro X d im lw tl iv lv A h ho
  have h0 := h.thr (nI 0)
  obtain ⟨p0, p1, t0, t1, hk, he, hk2, h20⟩ := mfacts h0 ho
  rw [tr298]
  have p0' : iv 48 0 = nI (nP A.1.1) := by rw [upd2_off _ _ _ _ (by decide)] at p0; exact p0
  have hlg := h0.lawG ho
  generalize hg : upd2 iv 46 0 (nI 0) = ivz at h0 p0 t0 he hk2 h20 hlg
  have o0 : outI iv ivz := hg ▸ out0 iv
  rw [p0', m_in X (d + 38), bI_some, sg298_18, b2i_ite, in_nV x (by omega)]
  unfold sp_gov
  cases hx : inV x (nI (nP A.1.1))
  · rw [if_neg (by decide)]
    exact ⟨ivz, lv, rfl, h0, o0⟩
  rw [if_pos rfl]
  obtain ⟨n, hn, rfl⟩ := inV_of (by omega) hx
  have z : ∀ a, a ≠ 69 → (upd2 ivz 69 0 (-1)) a = ivz a := fun a h1 => upd2_off _ _ _ _ h1
  obtain ⟨iv1, lv1, w5, w6, a1, a2, a3, a4, a5⟩ := m_gov X (d + 31) im lw tl (f := A.1.1) (l := lawOf A.1) (nt := nT A.1.1) p1 t1 (nP A.1.1) 0 (by omega) (upd2 ivz 69 0 (-1)) lv (fun _ => 0) 0 none none none (fun _ => upd2_self _ _ _ _) rfl (fun i hi => by omega) (by rw [z 46 (by decide)]; exact h20) (by rw [z 48 (by decide)]; exact hlg) (by rw [z 48 (by decide)]; exact hk2) (by rw [z 48 (by decide)]; exact he) (fun b hb => by cases hb)
  have a1 : run X (call X xT (d + 38)) false 1 xc299 26 [some (.inr (.inr (some 46))), some (.inl (nI (nP A.1.1))), some (.inl (nI (nT A.1.1))), some (.inl (-1)), some (.inl (nI 0)), none, none] [] (SS im lw tl, upd2 ivz 69 0 (-1), lv) = run X (call X xT (d + 38)) false 1 xc299 26 [some (.inr (.inr (some 46))), some (.inl (nI (nP A.1.1))), some (.inl (nI (nT A.1.1))), some (.inl (gB (nP A.1.1) (bst none (govL A)))), some (.inl (nI 0 + (-1))), w5, w6] [] (SS im lw tl, iv1, lv1) := a1
  have a5 : rowG (nP A.1.1) (nT A.1.1) (iv1 72) (bst none (govL A)) := a5
  have F : frG [69, 72] ivz iv1 := (frG_upd _ _ _ (by simp)).tr a2
  have h1 : RelM A iv1 lv1 := h0.fr (fun a k q => F a k (by rcases q with q | ⟨q, _⟩ <;> simp at q ⊢ <;> omega) (by rcases q with q | ⟨q, r⟩ <;> simp at * <;> omega)) (h0.c.N a3)
  rw [tr299, p0, t0, a1, sg299_26, if_pos (by decide), bI_some, sg298_27]
  refine ⟨iv1, lv1, ?_, h1, o0.tr (F.out (by simp))⟩
  obtain ⟨b, hb⟩ := govL_ne A
  rw [hb] at a5 ⊢
  obtain ⟨g1, g2⟩ := a5 b rfl
  have bn : govV (nP A.1.1) (nT A.1.1) (some b) (nI n) = if nI n = 0 then nI (nP A.1.1 - b.1) else cvR (nT A.1.1) (b.2 (nI n - nI 1).toNatClampNeg) := rfl
  simp only [if_true]
  rw [bn]
  by_cases c : n = 0
  · subst c; rw [if_pos (by decide), if_pos (by decide)]; rfl
  · have z : ¬ nI n = 0 := fun e => c (by have := congrArg Int32.toNatClampNeg e; rw [nI_clamp (by omega)] at this; exact this)
    rw [if_neg z, if_neg z, pk_sub (by omega), if_pos (inb_nI (by omega) (by omega)), nI_clamp (by omega), g2 (n - 1) (by omega)]
theorem S_gov (x : Int32) : stepOK 172 298 [.inl x] := step_of (C_gov x) (M_gov x) (fun A h => h)
