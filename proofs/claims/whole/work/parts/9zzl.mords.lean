/-! orders: the reference's call, whole -/
theorem cnt_one {g : GC} {s s' : St × Nat × Int32} (h : oOne g s = some s') : s'.2.1 ≤ s.2.1 + 1 := by
  unfold oOne at h
  split at h
  · split at h
    · cases h
    · injection h with h
      rw [← h]
      exact Nat.le_refl _
  · injection h with h
    rw [← h]
    exact Nat.le_succ _
theorem cnt_times {g : GC} : ∀ (m : Nat) (s s' : St × Nat × Int32), oTimes g m s = some s' → s'.2.1 ≤ s.2.1 + m := by
  intro m
  induction m with
  | zero => intro s s' h; injection h with h; rw [← h]; exact Nat.le_refl _
  | succ m ih =>
    intro s s' h
    unfold oTimes at h
    cases hr : oOne g s with
    | none => rw [hr] at h; cases h
    | some s1 =>
      rw [hr] at h
      have := ih s1 s' h
      have := cnt_one hr
      omega
theorem ok_all : ∀ (gs : List GC) (i : Nat) (s s' : St × Nat × Int32), (∀ g, g ∈ gs → g.2.1 ≤ 20) → OKA s.1 → oAll gs i s = .inr s' → OKA s'.1 ∧ s'.2.1 ≤ s.2.1 + 20 * gs.length := by
  intro gs
  induction gs with
  | nil => intro i s s' _ ho h; injection h with h; rw [← h]; exact ⟨ho, Nat.le_refl _⟩
  | cons g gs ih =>
    intro i s s' hg ho h
    unfold oAll at h
    cases hr : oTimes g g.2.1 s with
    | none => rw [hr] at h; cases h
    | some s1 =>
      rw [hr] at h
      obtain ⟨a1, a2⟩ := ih (i + 1) s1 s' (fun g h => hg g (List.mem_cons_of_mem _ h)) (sam_times g.2.1 s s1 ho hr).2 h
      have := cnt_times g.2.1 s s1 hr
      have := hg g List.mem_cons_self
      exact ⟨a1, by rw [List.length_cons]; omega⟩
theorem rl_mem {a k : Nat} (hk : a ∈ [47, 48, 49, 50, 51, 52, 55, 78] ∨ (a = 46 ∧ k ∈ [1, 8, 11, 13, 18, 20, 54, 58, 59])) : a ≠ 53 ∧ a ≠ 54 ∧ ¬ (a = 46 ∧ (k = 52 ∨ k = 53)) := by
  rcases hk with hk | ⟨e, hk⟩ <;> simp at hk <;> omega
theorem frK_out {iv iv' : Nat → Nat → Int32} (h : frK iv iv') : outI iv iv' := fun a ha => funext (fun k => h a k (by simp; omega) (by omega) (by omega))
theorem M_orders : MSpec 308 [] sp_ord := by
  intro X d im lw tl iv lv A h ho
  show MR' im lw tl iv _ _
  have h0 := relM_stop (h.thr (nI 0)) (-1)
  have o0 : outI iv (upd2 (upd2 iv 46 0 (nI 0)) 46 54 (-1)) := (out0 iv).tr (out_upd _ _ _ (by decide) (by decide))
  rw [tr308]
  generalize upd2 (upd2 iv 46 0 (nI 0)) 46 54 (-1) = ivs at h0 o0
  have hT := ho.2.2.1
  obtain ⟨hb1, hb2⟩ := bytF_ok hT
  have tx : txtM (bytF A.2.2.1) A.2.2.1.1 ivs := ⟨h0.2.2.1.1, hT.1, fun j hj => by rw [h0.2.2.1.2 j hj]; exact hb1 j hj, hb2⟩
  obtain ⟨iv1, lv1, a1, a2, a3, a4, a5⟩ := m_begin (X := X) (im := im) (lw := lw) (tl := tl) (d + 35) (lv := lv) tx h0.c true
  have a1 : call X xT (d + 39) 236 [.inr (.inr (some 46)), .inl (nI 1)] (SS im lw tl, ivs, lv) = some (none, (SS im lw tl, iv1, lv1)) := a1
  obtain ⟨iv2, lv2, b1, b2, b3, b4, b5, b6⟩ := m_ordLoop (X := X) (im := im) (lw := lw) (tl := tl) (d + 30) 12 [] 0 0 iv1 lv1 rfl a2 a3 (fun j g hj => by cases hj)
  have b2 : moX (bytF A.2.2.1) A.2.2.1.1 rowsO iv2 (txtR true A.2.2.1) := b2
  rw [a1, bV_some, sg308_15, b1, sg308_50]
  have fz : frZ ivs iv2 := a4.tr b5
  have fo : frO lv lv2 := a5.tr b6
  unfold sp_ord
  cases hr : txtR true A.2.2.1 with
  | inl e =>
    rw [hr] at b2
    rw [b2.1, if_neg n1z]
    exact mrf (A := stOrd A _) (relM_rd h0 fz fo b3 b4 b2.2) (o0.tr (frZ_out fz)) (i := 4) (by decide) (by rw [m_rf4 X (d + 38), bI_some, sg308_63])
  | inr gs =>
    rw [hr] at b2
    obtain ⟨⟨c1, c2⟩, c3, c4, c5, c6, c7, c8⟩ := b2
    have gok := (pText_ok (nt := ntF (bytF A.2.2.1) A.2.2.1.1) true (tkF_end _ _) 12 [] 0 0 gs (by omega) (Nat.zero_le _) (fun g hg => by cases hg) hr).2
    have gokg := (pText_okg (nt := ntF (bytF A.2.2.1) A.2.2.1.1) true (tkF_end _ _) 12 [] 0 0 gs (by omega) (Nat.zero_le _) (fun g hg => by cases hg) hr).2
    have r2 : RelM (stOrd A (-1)) iv2 lv2 := relM_rd h0 fz fo b3 b4 c2
    have hU : (stOrd A (-1)).2.2.2.1.length ≤ 16 := ho.2.2.2.1.1
    obtain ⟨g, g1, g2, g3⟩ := m_keepAll X (d + 38) im lw tl iv2 lv2 (k := 17) (by omega)
    have e8 : (upr iv2 51 g) 46 8 = iv2 46 8 := by rw [upr_off _ _ _ (by decide)]
    have g1 : call X xT (d + 39) 268 [.inr (.inr (some 46)), .inl (nI 17)] (SS im lw tl, iv2, lv2) = some (none, (SS im lw tl, upr iv2 51 g, lv2)) := g1
    rw [c1, if_pos n0z, g1, bV_some, sg308_70, e8]
    obtain ⟨p, p1, p2, p3⟩ := m_cp77 X (call X xT (d + 39)) im lw tl lv2 (iv2 46 8) 848 0 (upr iv2 51 g) (by omega)
    obtain ⟨q, q1, q2, q3⟩ := m_cp104 X (call X xT (d + 39)) im lw tl lv2 (iv2 46 8) 16 0 (upr (upr iv2 51 g) 53 p) (by omega)
    rw [p1, sg308_77, if_pos (by decide), q1, sg308_104, if_pos (by decide)]
    have r3 : RelM (stOrd A (-1)) (upr iv2 51 g) lv2 := relM_back r2 r2 samS.rf hU (fun j hj => by rw [upr_off _ _ _ (by decide)]) (fun x hx => by rw [upr_off _ _ _ (by decide)]) (fun x hx => by rw [upr_self]; exact g3 x (by omega)) (fun x hx => by rw [upr_off _ _ _ (by decide)]) e8 (fun a k h1 h2 h3 h4 => by rw [upr_off _ _ _ h2])
    have z : ∀ a k, a ≠ 53 → a ≠ 54 → ¬ (a = 46 ∧ (k = 52 ∨ k = 53)) → (upd2 (upd2 (upr (upr (upr iv2 51 g) 53 p) 54 q) 46 52 (nI 0)) 46 53 (-1)) a k = (upr iv2 51 g) a k := fun a k h1 h2 h3 => by rw [upd2_ne _ _ _ _ (by omega), upd2_ne _ _ _ _ (by omega), upr_off _ _ _ h2, upr_off _ _ _ h1]
    have i52 : (upd2 (upd2 (upr (upr (upr iv2 51 g) 53 p) 54 q) 46 52 (nI 0)) 46 53 (-1)) 46 52 = nI 0 := by rw [upd2_ne _ _ _ _ (by decide), upd2_self]
    have i53 : (upd2 (upd2 (upr (upr (upr iv2 51 g) 53 p) 54 q) 46 52 (nI 0)) 46 53 (-1)) 46 53 = -1 := upd2_self _ _ _ _
    have k53 : ∀ x, x < 848 → (upd2 (upd2 (upr (upr (upr iv2 51 g) 53 p) 54 q) 46 52 (nI 0)) 46 53 (-1)) 53 x = (upr iv2 51 g) 51 x := fun x hx => by rw [upd2_off _ _ _ _ (by decide), upd2_off _ _ _ _ (by decide), upr_off _ _ _ (by decide), upr_self, p2 x (by omega) hx]
    have k54 : ∀ x, x < 16 → (upd2 (upd2 (upr (upr (upr iv2 51 g) 53 p) 54 q) 46 52 (nI 0)) 46 53 (-1)) 54 x = (upr iv2 51 g) 52 x := fun x hx => by rw [upd2_off _ _ _ _ (by decide), upd2_off _ _ _ _ (by decide), upr_self, q2 x (by omega) hx, upr_off _ _ _ (by decide)]
    have o5 : outI iv (upd2 (upd2 (upr (upr (upr iv2 51 g) 53 p) 54 q) 46 52 (nI 0)) 46 53 (-1)) := (o0.tr (frZ_out fz)).tr (fun a ha => by rw [upd2_off _ _ _ _ (by omega), upd2_off _ _ _ _ (by omega), upr_off _ _ _ (by omega), upr_off _ _ _ (by omega), upr_off _ _ _ (by omega)])
    generalize upd2 (upd2 (upr (upr (upr iv2 51 g) 53 p) 54 q) 46 52 (nI 0)) 46 53 (-1) = iv5 at z i52 i53 k53 k54 o5
    have r5 : RelM (stOrd A (-1)) iv5 lv2 := r3.fr (fun a k hk => z a k (rl_mem hk).1 (rl_mem hk).2.1 (rl_mem hk).2.2) r2.c
    have z2 : ∀ a k, a ≠ 51 → a ≠ 53 → a ≠ 54 → ¬ (a = 46 ∧ (k = 52 ∨ k = 53)) → iv5 a k = iv2 a k := fun a k h1 h2 h3 h4 => by rw [z a k h2 h3 h4, upr_off _ _ _ h1]
    have pr5 : prgM iv5 gs := ⟨fun k x hx => by rw [z2 57 k (by decide) (by decide) (by decide) (by omega), z2 58 k (by decide) (by decide) (by decide) (by omega)]; exact c7 k x hx, c6, c3, gok, gokg, fun j g hj k hk => by rw [z2 77 (8 * j + k) (by decide) (by decide) (by decide) (by omega)]; exact c8 j g hj k hk, by rw [z2 46 21 (by decide) (by decide) (by decide) (by omega)]; exact c4⟩
    have k8 : iv5 46 8 = iv2 46 8 := z2 46 8 (by decide) (by decide) (by decide) (by omega)
    have hal := m_oAll X (d + 25) (im := im) (lw := lw) (tl := tl) (gs := gs) (iv2 46 8) gs 0 (stOrd A (-1), 0, -1) iv5 lv2 none (by omega) (fun j => by rw [Nat.zero_add]) ⟨r5, ho.ord _, pr5, i52, i53⟩
    have hal : oaM X (call X xT (d + 39)) im lw tl gs (iv2 46 8) (stOrd A (-1)) iv5 lv2 (run X (call X xT (d + 39)) false 1 xc308 140 [some (.inr (.inr (some 46))), some (.inl (iv2 46 8)), some (.inl (nI 0)), none] [] (SS im lw tl, iv5, lv2)) (oAll gs 0 (stOrd A (-1), 0, -1)) := hal
    show MR' im lw tl iv _ (fin_ord A (oAll gs 0 (stOrd A (-1), 0, -1)))
    cases hq : oAll gs 0 (stOrd A (-1), 0, -1) with
    | inr s =>
      rw [hq] at hal
      obtain ⟨iv6, lv6, v, w, t1, t2, t3, t4⟩ := hal
      have hc := (ok_all gs 0 _ s (fun g hg => (gok g hg).2.1.2) (ho.ord (-1)) hq).2
      have hc : s.2.1 ≤ 0 + 20 * gs.length := hc
      rw [t1, t2.2.2.2.1, m_tellP X (d + 38) im lw tl _ lv6 (nI_p0 (by omega)), bI_some, sg308_214]
      exact ⟨_, lv6, rfl, RelM.st t2.1 (nI 0), (o5.tr (frK_out t3)).tr (out_upd _ _ _ (by decide) (by decide))⟩
    | inl k =>
      rw [hq] at hal
      obtain ⟨iv6, lv6, v, t1, t3, t4, B, t5, t6⟩ := hal
      obtain ⟨iv7, u1, u2, u3, u4, u5, u6, u7⟩ := m_give X (d + 37) im lw tl iv6 lv6 (iv2 46 8)
      have u1 : call X xT (d + 39) 314 [.inr (.inr (some 46)), .inl (iv2 46 8)] (SS im lw tl, iv6, lv6) = some (none, (SS im lw tl, iv7, lv6)) := u1
      have o7 : outI iv6 iv7 := fun a ha => funext (fun k => u7 a k (by omega) (by omega) (by omega) (by omega))
      rw [t1, u1, bV_some, sg308_182, m_rf2 X (d + 38), bI_some, sg308_193]
      refine mrf (A := stStop (stOrd A (-1)) (nI k)) (relM_stop (relM_back r5 t5 t6 hU (fun j hj => ?_) u3 (fun x hx => ?_) (fun x hx => ?_) (by rw [u6, k8]) u7) (nI k)) (((o5.tr (frK_out t3)).tr o7).tr (out_upd _ _ _ (by decide) (by decide))) (i := 2) (by decide) rfl
      · rw [u2 j hj, t3 51 (53 * 17 + j) (by decide) (fun _ => by omega) (by omega), z 51 (53 * 17 + j) (by decide) (by decide) (by omega), upr_self, g2 j hj, z2 48 (5 + j) (by decide) (by decide) (by decide) (by omega)]
      · rw [u4 x hx, t3 53 x (by decide) (by omega) (by omega), k53 x hx, z 51 x (by decide) (by decide) (by omega)]
      · rw [u5 x hx, t3 54 x (by decide) (by omega) (by omega), k54 x hx, z 52 x (by decide) (by decide) (by omega)]
theorem O_orders (A : St) (h : OKA A) : OKA (sp_ord A).2 := by
  unfold sp_ord
  cases hr : txtR true A.2.2.1 with
  | inl e => exact h.ord 0
  | inr gs =>
    have gok := (pText_ok (nt := ntF (bytF A.2.2.1) A.2.2.1.1) true (tkF_end _ _) 12 [] 0 0 gs (by omega) (Nat.zero_le _) (fun g hg => by cases hg) hr).2
    show OKA (fin_ord A (oAll gs 0 (stOrd A (-1), 0, -1))).2
    cases hq : oAll gs 0 (stOrd A (-1), 0, -1) with
    | inl k => exact h.ord (-1)
    | inr s => exact (ok_all gs 0 _ s (fun g hg => (gok g hg).2.1.2) (h.ord (-1)) hq).1
theorem S_orders : stepOK 108 308 [] := step_of C_orders M_orders O_orders
