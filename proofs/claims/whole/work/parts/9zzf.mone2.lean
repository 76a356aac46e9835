/-! orders: one order of the reference, its answer -/
def oRes (g : GC) (s : St × Nat × Int32) (r : Int32 × St) : Option (St × Nat × Int32) := if r.1 < 0 then none else some (r.2, s.2.1 + 1, if g.1 = 0 then r.1 else s.2.2)
section mo
variable {X : XE} {im lw : List (Option Nat)} {tl : List XC}
theorem m_oAct (d : Nat) {gs : List GC} {i : Nat} {g : GC} (hg : gs[i]? = some g) {s : St × Nat × Int32} {iv iv2 : Nat → Nat → Int32} {lv lv2 : Nat → Nat → Int64} (hv : invM gs s iv2 lv2) (h55 : iv2 46 55 = nI 0) (hf : frK iv iv2) (hl : agK lv lv2) (x y : Int32) : onM im lw tl gs s.1 iv lv (run X (call X xT (d + 13)) false 1 xc311 96 [some (.inr (.inr (some 46))), some (.inl (nI (8 * i))), some (.inl x), none, none] [.inl y] (SS im lw tl, iv2, lv2)) (oRes g s (oKnd g x y s.1)) := by
  obtain ⟨hr, ho, hp, h52, h53⟩ := hv
  have i12 : i < 12 := by have := (List.getElem?_eq_some_iff.mp hg).1; have := hp.2.2.1; omega
  have g4 := (hp.2.2.2.1 g (List.mem_of_getElem? hg)).1
  obtain ⟨k0, k7, -, -, -⟩ := ord_mk hp i g hg
  obtain ⟨iv3, lv3, a1, a2, a3, a4⟩ := m_313 X d im lw tl iv2 lv2 hr ho g4 x y
  have hok : actOK (oKnd g x y) := by
    unfold oKnd
    by_cases e3 : g.1 = 3
    · rw [if_pos e3]; exact K_pass
    rw [if_neg e3]
    by_cases e1 : g.1 = 1
    · rw [if_pos e1]; exact K_feed _ _
    rw [if_neg e1]
    by_cases e2 : g.1 = 2
    · rw [if_pos e2]; exact K_move _ _
    rw [if_neg e2]; exact K_crack _ _
  have hok := hok s.1 ho
  have f3 : frK iv iv3 := hf.tr (frK_A a3)
  have l3 : agK lv lv3 := hl.tr (agK_N a4)
  have c77 : iv3 77 (8 * i) = nI g.1 := by rw [a3 77 _ (by decide) (by omega) (by omega)]; exact k0
  have c52 : iv3 46 52 = nI s.2.1 := by rw [a3 46 52 (by decide) (by omega) (by omega)]; exact h52
  have c53 : iv3 46 53 = s.2.2 := by rw [a3 46 53 (by decide) (by omega) (by omega)]; exact h53
  rw [sg311_96, h55, if_pos nI0_eq0, if_pos (inb_nI (by omega) (by omega)), nI_clamp (by omega), k0, a1, bI_some, sg311_119]
  unfold oRes
  by_cases neg : (oKnd g x y s.1).1 < 0
  · rw [if_pos neg, if_neg (fun z => by rw [fb_le] at z; rw [fb_lt] at neg; omega)]
    refine ⟨iv3, lv3, f3, l3, rfl, ?_⟩
    rcases hok with ⟨k, q1, q2⟩ | k
    · rw [q2] at a2; exact a2
    · have := k.1
      rw [fb_le] at this
      rw [fb_lt] at neg
      omega
  · have pos : (0 : Int32) ≤ (oKnd g x y s.1).1 := by rw [fb_le]; rw [fb_lt] at neg; omega
    have ho3 : OKA (oKnd g x y s.1).2 := by
      rcases hok with ⟨k, q1, q2⟩ | k
      · rw [q2] at neg; exact absurd (rc_neg q1).1 neg
      · exact k.2
    have fin : ∀ u : Int32, u = (if g.1 = 0 then (oKnd g x y s.1).1 else s.2.2) → onM im lw tl gs s.1 iv lv (run X (call X xT (d + 13)) false 1 xc311 148 [some (.inr (.inr (some 46))), some (.inl (nI (8 * i))), some (.inl x), some (.inl y), some (.inl (oKnd g x y s.1).1)] [.inl u, .inr (.inr (some 46))] (SS im lw tl, iv3, lv3)) (some ((oKnd g x y s.1).2, s.2.1 + 1, if g.1 = 0 then (oKnd g x y s.1).1 else s.2.2)) := by
      intro u hu
      rw [sg311_148, c52, nI_add]
      have f4 : frK iv3 (upd2 (upd2 iv3 46 53 u) 46 52 (nI (s.2.1 + 1))) := fun a k _ _ h2 => by rw [upd2_ne _ _ _ _ (by omega), upd2_ne _ _ _ _ (by omega)]
      refine ⟨_, lv3, f3.tr f4, l3, rfl, relM_S a2 (fun a k h2 => by rw [upd2_ne _ _ _ _ (by omega), upd2_ne _ _ _ _ (by omega)]) agK.rf, ho3, hp.fr ((frK_A a3).tr f4), upd2_self _ _ _ _, ?_⟩
      rw [upd2_ne _ _ _ _ (by omega), upd2_self]; exact hu
    rw [if_neg neg, if_pos pos, if_pos (inb_nI (by omega) (by omega)), nI_clamp (by omega), c77]
    by_cases e0 : g.1 = 0
    · rw [if_pos (show nI g.1 = 0 by rw [e0]; exact nI0_eq0)]
      exact fin _ (by rw [if_pos e0])
    · rw [if_neg (nI_ne0 (by omega) (by omega))]
      exact fin _ (by rw [if_neg e0]; exact c53)
theorem m_oSums (d : Nat) {gs : List GC} {i : Nat} {g : GC} (hg : gs[i]? = some g) {s : St × Nat × Int32} {iv iv2 : Nat → Nat → Int32} {lv lv2 : Nat → Nat → Int64} (hv : invM gs s iv2 lv2) (h55 : iv2 46 55 = nI 0) (hw : oWS s.1.1.1 (nI s.2.1) s.2.2 iv2 lv2) (hf : frK iv iv2) (hl : agK lv lv2) (w2 : Option XV) : onM im lw tl gs s.1 iv lv (run X (call X xT (d + 13)) false 1 xc311 81 [some (.inr (.inr (some 46))), some (.inl (nI (8 * i))), w2, none, none] [] (SS im lw tl, iv2, lv2)) (oRes g s (oAct g (oW s.1.1.1 (nI s.2.1) s.2.2) s.1)) := by
  have hp := hv.2.2.1
  have i12 : i < 12 := by have := (List.getElem?_eq_some_iff.mp hg).1; have := hp.2.2.1; omega
  obtain ⟨k0, k7, kt, kz, ks⟩ := ord_mk hp i g hg
  have h20 : iv2 46 20 = nI 0 := hv.1.2.2.2.2.2.2.1
  rw [sg311_81, nI_add]
  by_cases e3 : g.1 = 3
  · have z0 := kz e3 0 (by omega)
    have z1 := kz e3 1 (by omega)
    have z2 := kz e3 2 (by omega)
    have z3 := kz e3 3 (by omega)
    rw [m_sumN X (d + 12) im lw tl iv2 lv2 (by omega) (Or.inr ⟨h55, z0.trans z1.symm⟩), bI_some, sg311_88, nI_add, m_sumN X (d + 12) im lw tl iv2 lv2 (by omega) (Or.inr ⟨h55, z2.trans z3.symm⟩), bI_some]
    have := m_oAct (X := X) (im := im) (lw := lw) (tl := tl) d hg hv h55 hf hl (-1) (-1)
    unfold oKnd at this
    unfold oAct
    rw [if_pos e3] at this ⊢
    exact this
  · obtain ⟨⟨a, z, ea, ez, hE⟩, ⟨a', z', ea', ez', hE'⟩⟩ := ks e3
    obtain ⟨x, iv3, lv3, s1, s2, s3, s4, s5⟩ := m_sumO X (d + 8) im lw tl iv2 lv2 hp h20 h55 hw (p := 8 * i + 1) (by omega) ea ez hE
    rw [s1, bI_some, sg311_88, nI_add]
    have f3 := hf.tr (frK_S s4)
    have l3 := hl.tr (agK_S s5)
    unfold oAct
    rw [if_neg e3]
    cases hx : denE g.2.2.1 (oW s.1.1.1 (nI s.2.1) s.2.2) with
    | none =>
      rw [hx] at s2
      have s2 : iv3 46 55 = nI 1 := s2
      rw [m_sumN X (d + 12) im lw tl iv3 lv3 (by omega) (Or.inl s2), bI_some, sg311_96, s2, if_neg n1z]
      exact ⟨iv3, lv3, f3, l3, rfl, relM_S hv.1 (fun a k h2 => s4 a k (by omega)) (agK_S s5)⟩
    | some v =>
      rw [hx] at s2
      have s2 : iv3 46 55 = nI 0 := s2
      have c46 : ∀ k, k ≠ 38 → k ≠ 55 → iv3 46 k = iv2 46 k := fun k h1 h2 => s4 46 k (by omega)
      have c : ∀ a, a ≠ 46 → iv3 a = iv2 a := fun a ha => by funext k; exact s4 a k (by omega)
      have hv3 : invM gs s iv3 lv3 := ⟨relM_S hv.1 (fun a k h2 => s4 a k (by omega)) (agK_S s5), hv.2.1, hp.fr (frK_S s4), by rw [c46 52 (by omega) (by omega)]; exact hv.2.2.2.1, by rw [c46 53 (by omega) (by omega)]; exact hv.2.2.2.2⟩
      obtain ⟨y, iv4, lv4, u1, u2, u3, u4, u5⟩ := m_sumO X (d + 8) im lw tl iv3 lv3 hv3.2.2.1 (by rw [c46 20 (by omega) (by omega)]; exact h20) s2 (hw.fr (c 48 (by decide)) (fun k => s5 65 k (by omega) (by omega))) (p := 8 * i + 3) (by omega) (by rw [c 77 (by decide)]; exact ea') (by rw [c 77 (by decide)]; exact ez') hE'
      rw [u1, bI_some]
      have f4 := f3.tr (frK_S u4)
      have l4 := l3.tr (agK_S u5)
      cases hy : denE g.2.2.2.1 (oW s.1.1.1 (nI s.2.1) s.2.2) with
      | none =>
        rw [hy] at u2
        have u2 : iv4 46 55 = nI 1 := u2
        rw [sg311_96, u2, if_neg n1z]
        exact ⟨iv4, lv4, f4, l4, rfl, relM_S hv3.1 (fun a k h2 => u4 a k (by omega)) (agK_S u5)⟩
      | some v' =>
        rw [hy] at u2
        have u2 : iv4 46 55 = nI 0 := u2
        have hv4 : invM gs s iv4 lv4 := ⟨relM_S hv3.1 (fun a k h2 => u4 a k (by omega)) (agK_S u5), hv.2.1, hv3.2.2.1.fr (frK_S u4), by rw [u4 46 52 (by omega)]; exact hv3.2.2.2.1, by rw [u4 46 53 (by omega)]; exact hv3.2.2.2.2⟩
        have := m_oAct (X := X) (im := im) (lw := lw) (tl := tl) d hg hv4 u2 f4 l4 x y
        rw [s3 v hx, u3 v' hy] at this ⊢
        unfold oKnd at this
        rw [if_neg e3] at this
        simp only
        by_cases e1 : g.1 = 1
        · rw [if_pos e1] at this ⊢; exact this
        rw [if_neg e1] at this ⊢
        by_cases e2 : g.1 = 2
        · rw [if_pos e2] at this ⊢; exact this
        rw [if_neg e2] at this ⊢
        exact this
theorem m_oOne (d : Nat) {gs : List GC} {i : Nat} {g : GC} (hg : gs[i]? = some g) {s : St × Nat × Int32} {iv : Nat → Nat → Int32} {lv : Nat → Nat → Int64} (hv : invM gs s iv lv) : onM im lw tl gs s.1 iv lv (call X xT (d + 14) 311 [.inr (.inr (some 46)), .inl (nI (8 * i))] (SS im lw tl, iv, lv)) (oOne g s) := by
  have hp := hv.2.2.1
  have i12 : i < 12 := by have := (List.getElem?_eq_some_iff.mp hg).1; have := hp.2.2.1; omega
  have hc400 := hp.2.1
  obtain ⟨k0, k7, kt, kz, ks⟩ := ord_mk hp i g hg
  obtain ⟨p0, p1, t0, t1, hk, he, hk2, h20⟩ := mfacts hv.1 hv.2.1
  have e5 : iv 48 5 = s.1.1.1 2 := (he 2 (by omega)).symm
  rw [tr311, nI_add, nI_add, if_pos (inb_nI (by omega) (by omega)), if_pos (inb_nI (by omega) (by omega)), nI_clamp (by omega), nI_clamp (by omega), e5, hv.2.2.2.1, hv.2.2.2.2]
  have f1 : frK iv (upd2 iv 46 55 (nI 0)) := fun a k _ _ h2 => upd2_ne _ _ _ _ (by omega)
  have l1 : agK lv (upd2 (upd2 (upd2 lv 65 1 ((s.1.1.1 2).toInt64)) 65 2 ((nI s.2.1).toInt64)) 65 3 (s.2.2.toInt64)) := fun a k _ h2 _ _ => by rw [upd2_off _ _ _ _ h2, upd2_off _ _ _ _ h2, upd2_off _ _ _ _ h2]
  have w1 : oWS s.1.1.1 (nI s.2.1) s.2.2 (upd2 iv 46 55 (nI 0)) (upd2 (upd2 (upd2 lv 65 1 ((s.1.1.1 2).toInt64)) 65 2 ((nI s.2.1).toInt64)) 65 3 (s.2.2.toInt64)) := by
    refine ⟨?_, ?_, p1, ?_, t1, ?_, ?_, ?_⟩
    · rw [upd2_off _ _ _ _ (by decide)]; exact he
    · rw [upd2_off _ _ _ _ (by decide)]; exact p0
    · rw [upd2_off _ _ _ _ (by decide)]; exact t0
    · rw [upd2_ne _ _ _ _ (by omega), upd2_ne _ _ _ _ (by omega), upd2_self]
    · rw [upd2_ne _ _ _ _ (by omega), upd2_self]
    · rw [upd2_self]
  have v1 : invM gs s (upd2 iv 46 55 (nI 0)) (upd2 (upd2 (upd2 lv 65 1 ((s.1.1.1 2).toInt64)) 65 2 ((nI s.2.1).toInt64)) 65 3 (s.2.2.toInt64)) := ⟨relM_S hv.1 (fun a k h2 => upd2_ne _ _ _ _ (by omega)) l1, hv.2.1, hp.fr f1, by rw [upd2_ne _ _ _ _ (by omega)]; exact hv.2.2.2.1, by rw [upd2_ne _ _ _ _ (by omega)]; exact hv.2.2.2.2⟩
  have z1 : (upd2 iv 46 55 (nI 0)) 46 55 = nI 0 := upd2_self _ _ _ _
  have c77 : ∀ k, (upd2 iv 46 55 (nI 0)) 77 k = iv 77 k := fun k => by rw [upd2_off _ _ _ _ (by decide)]
  have h201 : (upd2 iv 46 55 (nI 0)) 46 20 = nI 0 := by rw [upd2_ne _ _ _ _ (by omega)]; exact h20
  generalize upd2 iv 46 55 (nI 0) = iv1 at f1 w1 v1 z1 c77 h201
  generalize upd2 (upd2 (upd2 lv 65 1 ((s.1.1.1 2).toInt64)) 65 2 ((nI s.2.1).toInt64)) 65 3 (s.2.2.toInt64) = lv1 at l1 w1 v1
  have done : ∀ (r : Int32 × St), oRes g s r = (if r.1 < 0 then none else some (r.2, s.2.1 + 1, if g.1 = 0 then r.1 else s.2.2)) := fun _ => rfl
  unfold oOne
  rcases kt with ⟨tn, te⟩ | ⟨a, z, ea, ez, hT⟩
  · have hh : oHold g (oW s.1.1.1 (nI s.2.1) s.2.2) = true := by unfold oHold; rw [tn]; show decide (¬ (lN 1 : Int64) = lN 0) = true; decide
    rw [te, if_pos (by rw [fb_le]; omega), if_pos hh]
    exact m_oSums d hg v1 z1 w1 f1 l1 none
  · have hlt : a < z := hT.1
    have hzl := hT.2.1
    obtain ⟨x, iv3, lv3, s1, s2, s3, s4, s5⟩ := m_sumO X (d + 8) im lw tl iv1 lv1 v1.2.2.1 h201 z1 w1 (p := 8 * i + 5) (by omega) (by rw [c77]; exact ea) (by rw [c77]; exact ez) hT
    rw [ea, ez, if_neg (nI_ge hlt (by omega)), s1, bI_some, sg311_67]
    have f3 := f1.tr (frK_S s4)
    have l3 := l1.tr (agK_S s5)
    have hv3 : invM gs s iv3 lv3 := ⟨relM_S v1.1 (fun a k h2 => s4 a k (by omega)) (agK_S s5), hv.2.1, v1.2.2.1.fr (frK_S s4), by rw [s4 46 52 (by omega)]; exact v1.2.2.2.1, by rw [s4 46 53 (by omega)]; exact v1.2.2.2.2⟩
    have hw3 := w1.fr (iv' := iv3) (lv' := lv3) (by funext k; exact s4 48 k (by omega)) (fun k => s5 65 k (by omega) (by omega))
    unfold oHold
    cases hx : denT g.2.2.2.2 (oW s.1.1.1 (nI s.2.1) s.2.2) with
    | none =>
      rw [hx] at s2
      have s2 : iv3 46 55 = nI 1 := s2
      rw [s2, if_neg n1z, sg311_79, if_neg (by decide)]
      exact ⟨iv3, lv3, f3, l3, rfl, hv3⟩
    | some v =>
      rw [hx] at s2
      have s2 : iv3 46 55 = nI 0 := s2
      have hfit : v.toInt32.toInt64 = v := by
        have ok := hp.2.2.2.1 g (List.mem_of_getElem? hg)
        cases ht : g.2.2.2.2 with
        | none =>
          rw [ht] at hx
          have hx : some (lN 1) = some v := hx
          injection hx with hx
          rw [← hx]; decide
        | some t =>
          obtain ⟨L, t1, t2⟩ := ok.2.2.2.2.1 t ht
          rw [ht] at hx
          rcases t1.2.2.2.1 _ v hx with q | q <;> rw [q] <;> decide
      have hz := fit0 hfit
      rw [s2, if_pos nI0_eq0, s3 v hx]
      simp only
      by_cases e : v = lN 0
      · rw [if_pos (hz.mpr e), sg311_79, if_neg (show ¬ decide (¬ v = lN 0) = true from fun q => of_decide_eq_true q e)]
        exact ⟨iv3, lv3, f3, l3, rfl, hv3⟩
      · rw [if_neg (fun q => e (hz.mp q)), if_pos (show decide (¬ v = lN 0) = true from decide_eq_true e)]
        exact m_oSums d hg hv3 s2 hw3 f3 l3 _
end mo
