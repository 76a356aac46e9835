/-! decades of the reference -/
theorem m_draw (X : XE) (d : Nat) (im lw : List (Option Nat)) (tl : List XC) (iv : Nat → Nat → Int32) (lv : Nat → Nat → Int64) {k n : Nat} (hk : k < 1000003) (h0 : 0 < n) (hn : n < 1000) (hl : lv 46 56 = lN k) : call X xT (d + 1) 317 [.inr (.inr (some 46)), .inl (nI n)] (SS im lw tl, iv, lv) = some (some (.inl (nI (dr k % n))), (SS im lw tl, iv, upd2 lv 46 56 (lN (dr k)))) := by
  have e : lN k * lN 1103 + lN 12345 - (lN k * lN 1103 + lN 12345) / lN 1000003 * lN 1000003 = lN (dr k) := by
    rw [lN_mul, lN_add, pk_lRem (by omega) (by omega) (by omega)]
    rfl
  have hd := dr_lt k
  rw [tr317, hl, e, nI_l (by omega), if_neg (fun q => by have := (lN_eq (b := 0) (by omega) (by omega)).mp (q.trans (by rfl)); omega), pk_lRem (by omega) h0 (by omega), lN_i]
theorem m_fd (X : XE) (d : Nat) (im lw : List (Option Nat)) (tl : List XC) (iv : Nat → Nat → Int32) (lv : Nat → Nat → Int64) {f : Sc} (hk : okS f) (he : eqS f (fM (iv 48))) {t p : Nat} (ht : t < 4) (hp : p < 6) : (f (27 + t) < nI 1 ∧ iv 48 (26 + t) ≤ 0 ∧ feedF f t p = f) ∨ (¬ iv 48 (26 + t) ≤ 0 ∧ ∃ iv', call X xT (d + 2) 273 [.inr (.inr (some 46)), .inl (nI t), .inl (nI p)] (SS im lw tl, upd2 iv 48 (26 + t) (iv 48 (26 + t) - nI 1), lv) = some (none, (SS im lw tl, iv', lv)) ∧ eqS (feedF f t p) (fM (iv' 48)) ∧ rowS (iv 48) (iv' 48) ∧ fr [48] iv iv') := by
  obtain ⟨q, q1, q2⟩ := hk.m ht
  have em : iv 48 (26 + t) = nI q := by rw [← q2, he (27 + t) (by omega), fM, mx_m ht]
  by_cases hm : q < 1
  · refine Or.inl ⟨by rw [q2]; exact nI_lt hm (by omega), by rw [em, show q = 0 by omega]; decide, ?_⟩
    unfold feedF
    rw [if_pos (by rw [q2]; exact nI_lt hm (by omega))]
  · refine Or.inr ⟨by rw [em]; exact nI_nle (by omega) (by omega), ?_⟩
    have nq : near (nI 99) (f (27 + t) + (-1)) = nI q - nI 1 := by
      rw [q2, sb1, show q = q - 1 + 1 by omega, pk_m1]
      unfold near
      by_cases z : q - 1 < 99
      · rw [if_pos (nI_lt z (by omega))]
        by_cases z2 : 0 < q - 1
        · rw [if_pos (nI_lt z2 (by omega))]
        · rw [if_neg (nI_nlt (by omega) (by omega)), show q - 1 = 0 by omega]
      · omega
    rw [em, ← nq, ← mx_m ht]
    obtain ⟨iv3, m1, m2, m3, m4⟩ := m_feedIt X d im lw tl (upd2 iv 48 (mx (27 + t)) (near (nI 99) (f (27 + t) + (-1)))) lv (t := t) (p := p) (f := pu f (27 + t) (near (nI 99) (f (27 + t) + (-1)))) (by rw [upd2_rw]; exact eqS_pu he (by omega) _) ht hp
    have ef : feedF f t p = eatF (pu f (27 + t) (near (nI 99) (f (27 + t) + (-1)))) t p := by
      unfold feedF
      rw [if_neg (by rw [q2]; exact nI_nlt (by omega) (by omega))]
    rw [upd2_rw] at m3
    exact ⟨iv3, m1, by rw [ef]; exact m2, (rowS_pu _ (by omega) _).tr m3, (fr_upd _ _ _ (by simp)).tr m4⟩
theorem m_dec_act (X : XE) (d : Nat) (im lw : List (Option Nat)) (tl : List XC) (iv : Nat → Nat → Int32) (lv : Nat → Nat → Int64) (h20 : iv 46 20 = nI 0) {l : Lw} (hl : lawG (iv 48) l.1 l.2) {f : Sc} (hk : okF f) (he : eqS f (fM (iv 48))) {h t p : Nat} (hh : h < 3) (ht : t < nT f) (hp : p < nP f) (v1 v2 v4 : Int32) (b : Nat) (w7 : Option XV) :
    ∃ iv' lv', run X (call X xT (d + 7)) false 1 xc316 124 [some (.inr (.inr (some 46))), some (.inl v1), some (.inl v2), some (.inl (nI b)), some (.inl v4), some (.inl (nI t)), some (.inl (nI p)), w7] [.inl (nI h)] (SS im lw tl, iv, lv) = run X (call X xT (d + 7)) false 1 xc316 202 [some (.inr (.inr (some 46))), some (.inl v1), some (.inl v2), some (.inl (nI (b + (decA l f h t p).2))), some (.inl v4), some (.inl (nI t)), some (.inl (nI p)), some (.inl (nI h))] [] (SS im lw tl, iv', lv') ∧ eqS (decA l f h t p).1 (fM (iv' 48)) ∧ rowS (iv 48) (iv' 48) ∧ frG [48] iv iv' ∧ agN lv lv' := by
  have n1 := hk.1.np.2
  have n2 := hk.1.nt.2
  have cs : h = 0 ∨ h = 1 ∨ h = 2 := by omega
  rw [sg316_124]
  rcases cs with rfl | rfl | rfl
  · rw [if_pos nI0_eq0]
    obtain ⟨iv1, lv1, g1, g2, g3⟩ := m_may X (d + 1) im lw tl iv lv h20 hl hk.1 he (t := t) (p := p) (by omega) (by omega)
    have r1 : iv1 48 = iv 48 := g2.row (by decide)
    rw [g1, bI_some, sg316_139, b2i_ite]
    unfold decA
    rw [if_pos rfl]
    by_cases c : mayV f l t p = true
    · rw [if_pos c, if_pos c]
      obtain ⟨iv2, lv2, m1, m2, m3, m4, m5⟩ := m_crackIt X d im lw tl iv1 lv1 (by rw [g2 46 20 (by omega)]; exact h20) (by rw [r1]; exact hl) hk.1 (by rw [r1]; exact he) n1 (by rw [r1]; exact (he 0 (by omega)).symm.trans hk.1.np.1) (t := t) (p := p) (by omega) (by omega)
      rw [r1] at m3
      rw [m1, bI_some, sg316_151, if_neg (show ¬ nI 0 = nI 1 by decide), if_neg (show ¬ nI 0 = nI 1 by decide), nI_add, nI_add]
      refine ⟨iv2, lv2, ?_, m2, m3, g2.G.tr m4, g3.tr m5⟩
      by_cases c2 : reaV f l.1 l.2 t p = 0
      · rw [if_pos c2, if_pos c2]
      · rw [if_neg c2, if_neg c2]
    · rw [if_neg c, if_neg c, if_neg (show ¬ nI 0 = nI 1 by decide)]
      exact ⟨iv1, lv1, rfl, by rw [r1]; exact he, by rw [r1]; exact rowS.rf, g2.G, g3⟩
  · rw [if_neg nI1_ne0, if_pos rfl, nI_add, if_pos (ib5k (by omega)), nI_clamp (by omega), if_pos (ib5k (by omega)), if_pos (ib5k (by omega))]
    have eD : decA l f 1 t p = (feedF f t p, 0) := by unfold decA; rw [if_neg (show ¬ 1 = 0 by decide), if_pos rfl]
    rw [eD]
    rcases m_fd X (d + 5) im lw tl iv lv hk.1 he (t := t) (p := p) (by omega) (by omega) with ⟨a1, a2, a3⟩ | ⟨a1, iv', a2, a3, a4, a5⟩
    · rw [if_pos a2, a3]
      exact ⟨iv, lv, rfl, he, rowS.rf, frG.rf, agN.rf⟩
    · rw [if_neg a1, a2, bV_some]
      exact ⟨iv', lv, rfl, a3, a4, a5.G, agN.rf⟩
  · rw [if_neg (by decide), if_neg (by decide)]
    have eD : decA l f 2 t p = (f, 0) := by unfold decA; rw [if_neg (show ¬ 2 = 0 by decide), if_neg (show ¬ 2 = 1 by decide)]
    rw [eD]
    exact ⟨iv, lv, rfl, he, rowS.rf, frG.rf, agN.rf⟩
theorem decA_2 (l : Lw) (f : Sc) {h t p : Nat} (hn : nP f ≤ 6) (ht : t < 4) (hp : p < 6) : (decA l f h t p).1 2 = f 2 := by
  unfold decA
  split
  · split
    · show reactF f (nP f) (reaV f l.1 l.2 t p) t p 2 = f 2
      unfold reactF
      split
      · rw [stirF_off _ _ _ _ _ _ (by omega), pu_n _ _ _ (by omega)]
      · split
        · rw [stirF_off _ _ _ _ _ _ (by omega), pu_n _ _ _ (by omega)]
        · rw [pu_n _ _ _ (by omega), pu_n _ _ _ (by omega)]
    · rfl
  · split
    · show feedF f t p 2 = f 2
      unfold feedF
      split
      · rfl
      · unfold eatF
        rw [pu_n _ _ _ (by omega), pu_n _ _ _ (by omega), pu_n _ _ _ (by omega)]
    · rfl
theorem m_dec_loop (X : XE) (d : Nat) (im lw : List (Option Nat)) (tl : List XC) {l : Lw} (v1 : Int32) {n : Nat} (hn : n ≤ 60) : ∀ (m q : Nat) (s : Nat × Sc × Nat) (w5 w6 w7 : Option XV) (iv : Nat → Nat → Int32) (lv : Nat → Nat → Int64), q + m = n → s.1 < 1000003 → okF s.2.1 → 0 < nT s.2.1 → 0 < nP s.2.1 → iv 46 20 = nI 0 → lawG (iv 48) l.1 l.2 → eqS s.2.1 (fM (iv 48)) → lv 46 56 = lN s.1 →
    ∃ (iv' : Nat → Nat → Int32) (lv' : Nat → Nat → Int64) (w5' w6' w7' : Option XV), run X (call X xT (d + 7)) false 1 xc316 77 [some (.inr (.inr (some 46))), some (.inl v1), some (.inl (nI n)), some (.inl (nI s.2.2)), some (.inl (nI q)), w5, w6, w7] [] (SS im lw tl, iv, lv) = run X (call X xT (d + 7)) false 1 xc316 215 [some (.inr (.inr (some 46))), some (.inl v1), some (.inl (nI n)), some (.inl (nI (decF l m s).2.2)), some (.inl (nI 0)), w5', w6', w7'] [] (SS im lw tl, iv', lv') ∧ eqS (decF l m s).2.1 (fM (iv' 48)) ∧ rowS (iv 48) (iv' 48) ∧ frG [48, 67, 68] iv iv' ∧ (∀ a, a ∈ [61, 62, 63, 76] → lv' a = lv a) := by
  intro m
  induction m with
  | zero =>
    intro q s w5 w6 w7 iv lv hq hs hf h1 h2 h20 hl he h56
    rw [sg316_77, if_pos (nI_le (by omega) (by omega))]
    exact ⟨iv, lv, w5, w6, w7, rfl, he, rowS.rf, frG.rf, fun _ _ => rfl⟩
  | succ m ih =>
    intro q s w5 w6 w7 iv lv hq hs hf h1 h2 h20 hl he h56
    have n1 := hf.1.np.2
    have n2 := hf.1.nt.2
    have e5 : iv 48 5 = s.2.1 2 := (he 2 (by omega)).symm
    have e1 : iv 48 1 = nI (nT s.2.1) := (he 1 (by omega)).symm.trans hf.1.nt.1
    have e0 : iv 48 0 = nI (nP s.2.1) := (he 0 (by omega)).symm.trans hf.1.np.1
    rw [sg316_77, if_neg (nI_ge (show q < n by omega) (by omega)), e5, e1]
    simp only [decF]
    by_cases c : s.2.1 2 < nI 999
    · have dl1 := dr_lt s.1
      have dl2 := dr_lt (dr s.1)
      have dl3 := dr_lt (dr (dr s.1))
      rw [if_pos c, if_neg (fun e => by rw [fb_le] at e; rw [fb_lt] at c; omega), m_draw X (d + 6) im lw tl iv lv hs h1 (by omega) h56, bI_some, sg316_105, e0, m_draw X (d + 6) im lw tl iv _ dl1 h2 (by omega) (upd2_self _ _ _ _), bI_some, sg316_117, m_draw X (d + 6) im lw tl iv _ dl2 (by omega) (by omega) (upd2_self _ _ _ _), bI_some, upd2_upd2, upd2_upd2]
      have ht : dr s.1 % nT s.2.1 < nT s.2.1 := Nat.mod_lt _ h1
      have hp : dr (dr s.1) % nP s.2.1 < nP s.2.1 := Nat.mod_lt _ h2
      have h3 : dr (dr (dr s.1)) % 3 < 3 := Nat.mod_lt _ (by decide)
      have g := gd_decA hf l (dr (dr (dr s.1)) % 3) ht hp
      have gS := gd_decS hf l h1 h2
      have e2F := decA_2 l s.2.1 (h := dr (dr (dr s.1)) % 3) n1 (Nat.lt_of_lt_of_le ht n2) (Nat.lt_of_lt_of_le hp n1)
      have ef := decS_f l s
      have ek : (decS l s).1 = dr (dr (dr s.1)) := rfl
      have eb : (decS l s).2.2 = s.2.2 + (decA l s.2.1 (dr (dr (dr s.1)) % 3) (dr s.1 % nT s.2.1) (dr (dr s.1) % nP s.2.1)).2 := rfl
      obtain ⟨iv1, lv1, a1, a2, a3, a4, a5⟩ := m_dec_act X d im lw tl iv (upd2 lv 46 56 (lN (dr (dr (dr s.1))))) h20 hl hf he h3 ht hp v1 (nI n) (nI q) s.2.2 w7
      rw [a1]
      generalize hS : decS l s = S at gS ef ek eb ⊢
      generalize hdA : decA l s.2.1 (dr (dr (dr s.1)) % 3) (dr s.1 % nT s.2.1) (dr (dr s.1) % nP s.2.1) = dA at a2 g ef eb e2F ⊢
      clear a1
      generalize dr s.1 % nT s.2.1 = tt at *
      generalize dr (dr s.1) % nP s.2.1 = pp at *
      generalize dr (dr (dr s.1)) = kk at *
      obtain ⟨F, bb⟩ := dA
      obtain ⟨sk, sf, sb⟩ := S
      have ek : sk = kk := ek
      have eb : sb = s.2.2 + bb := eb
      have ef : sf = _ := ef
      subst ek
      subst eb
      obtain ⟨dy, d1, d2⟩ := g.1.1.d
      have e2F : F 2 = s.2.1 2 := e2F
      have d2 : F 2 = nI dy := d2
      obtain ⟨iv2, lv2, m1, m2, m3, m4, m5⟩ := m_passIt X (d + 1) im lw tl iv1 lv1 (by rw [a4 46 20 (by simp) (by omega)]; exact h20) (hl.sc a3) a2 n1 n2 (g.2.1.trans hf.1.np.1) (g.2.2.1.trans hf.1.nt.1) d2 (by
        rw [← e2F, d2] at c
        rcases Nat.lt_or_ge dy 999 with z | z
        · exact z
        · exact absurd c (nI_nlt z (by omega)))
      rw [sg316_202, m1, bV_some, sg316_206, nI_add]
      rw [← ef] at m2
      obtain ⟨iv3, lv3, w5', w6', w7', k1, k2, k3, k4, k5⟩ := ih (q + 1) (sk, sf, s.2.2 + bb) (some (.inl (nI tt))) (some (.inl (nI pp))) (some (.inl (nI (sk % 3)))) iv2 lv2 (by omega) dl3 gS.1 (by rw [st_nT gS.2]; exact h1) (by rw [st_nP gS.2]; exact h2) (by rw [m4 46 20 (by simp) (by omega), a4 46 20 (by simp) (by omega)]; exact h20) ((hl.sc a3).sc m3) m2 (by rw [m5 46 56 (by omega) (by omega) (by omega), a5 46 56 (by omega) (by omega) (by omega), upd2_self])
      refine ⟨iv3, lv3, w5', w6', w7', k1, k2, (a3.tr m3).tr k3, ((a4.mo (by intro x hx; simp at hx; simp [hx])).tr m4).tr k4, fun a ha => ?_⟩
      rw [k5 a ha]
      funext k
      rw [m5 a k (by simp at ha; omega) (by simp at ha; omega) (by simp at ha; omega), a5 a k (by simp at ha; omega) (by simp at ha; omega) (by simp at ha; omega), upd2_off _ _ _ _ (by simp at ha; omega)]
    · rw [if_neg c, if_pos (by rw [fb_le]; rw [fb_lt] at c; omega)]
      exact ⟨iv, lv, w5, w6, w7, rfl, he, rowS.rf, frG.rf, fun _ _ => rfl⟩
theorem decA_1 (l : Lw) (f : Sc) (h t p : Nat) : (decA l f h t p).2 ≤ 1 := by
  unfold decA
  split
  · split
    · show (if _ then 1 else 0) ≤ 1
      split <;> omega
    · show 0 ≤ 1; omega
  · split <;> (show 0 ≤ 1; omega)
theorem decF_le (l : Lw) : ∀ (m : Nat) (s : Nat × Sc × Nat), (decF l m s).2.2 ≤ s.2.2 + m := by
  intro m
  induction m with
  | zero => intro s; exact Nat.le_refl _
  | succ m ih =>
    intro s
    simp only [decF]
    split
    · have h1 := ih (decS l s)
      have h2 := decA_1 l s.2.1 (dr (dr (dr s.1)) % 3) (dr s.1 % nT s.2.1) (dr (dr s.1) % nP s.2.1)
      have h3 : (decS l s).2.2 = s.2.2 + (decA l s.2.1 (dr (dr (dr s.1)) % 3) (dr s.1 % nT s.2.1) (dr (dr s.1) % nP s.2.1)).2 := rfl
      rw [h3] at h1
      omega
    · omega
theorem m_dec_copy (X : XE) (d : Nat) (im lw : List (Option Nat)) (tl : List XC) (lv : Nat → Nat → Int64) (v1 v2 v3 : Int32) (w5 w6 w7 : Option XV) : ∀ (m i : Nat) (iv : Nat → Nat → Int32), i + m = 53 → ∃ g, run X (call X xT d) false 1 xc316 215 [some (.inr (.inr (some 46))), some (.inl v1), some (.inl v2), some (.inl v3), some (.inl (nI i)), w5, w6, w7] [] (SS im lw tl, iv, lv) = run X (call X xT d) false 1 xc316 215 [some (.inr (.inr (some 46))), some (.inl v1), some (.inl v2), some (.inl v3), some (.inl (nI 53)), w5, w6, w7] [] (SS im lw tl, upr iv 78 g, lv) ∧ (∀ j, i ≤ j → j < 53 → g j = iv 48 (5 + j)) ∧ (∀ x, x < i → g x = iv 78 x) := by
  intro m
  induction m with
  | zero =>
    intro i iv hi
    rw [show i = 53 by omega]
    exact ⟨iv 78, by rw [upr_id], fun j _ _ => by omega, fun _ _ => rfl⟩
  | succ m ih =>
    intro i iv hi
    rw [sg316_215, if_neg (nI_ge (show i < 53 by omega) (by omega)), nI_add, if_pos (ib5k (by omega)), if_pos (inb_nI (by omega) (by omega)), nI_clamp (by omega), nI_clamp (by omega), nI_add]
    obtain ⟨g, g1, g2, g3⟩ := ih (i + 1) (upd2 iv 78 i (iv 48 (5 + i))) (by omega)
    refine ⟨g, by rw [g1, upd2_as, upr_upr], fun j h1 h2 => ?_, fun x hx => ?_⟩
    · by_cases e : j = i
      · subst e; rw [g3 _ (by omega), upd2_self]
      · rw [g2 j (by omega) h2, upd2_ne _ _ _ _ (by omega)]
    · rw [g3 x (by omega), upd2_ne _ _ _ _ (by omega)]
theorem M_decades (s n : Int32) : MSpec 316 [.inl s, .inl n] (sp_decades s n) := by
  intro X d im lw tl iv lv A h ho
  show MR' im lw tl iv _ _
  have h0 := h.thr (nI 0)
  obtain ⟨p0, p1, t0, t1, hk, he, hk2, h20⟩ := mfacts h0 ho
  have lg := h0.lawG ho
  unfold sp_decades
  rw [tr316]
  generalize hg : upd2 iv 46 0 (nI 0) = ivz at h0 p0 t0 he hk2 h20 lg
  have o0 : outI iv ivz := hg ▸ out0 iv
  rw [m_in X (d + 38), bI_some, sg316_14, b2i_ite, in_inV s (top := 1000000) (by decide)]
  cases hs : inV s (nI 1000000)
  · rw [if_neg (by decide), Bool.false_and, if_neg (by decide)]
    exact mrf h0 o0 (i := 0) (by decide) (by rw [m_rf0, bI_some, sg316_34])
  rw [if_pos rfl, Bool.true_and, m_in X (d + 38), bI_some, sg316_26, b2i_ite, nOK_in, t0, p0]
  by_cases hn : nOK n = true
  · rw [if_pos hn, if_pos hn]
    by_cases c : nT A.1.1 = 0
    · rw [if_pos (Or.inl c), if_pos (by rw [c]; exact nI0_eq0)]
      exact mrf h0 o0 (i := 2) (by decide) (by rw [m_rf2, bI_some, sg316_59])
    rw [if_neg (nI_ne0 (show 0 < nT A.1.1 by omega) (by omega))]
    by_cases c2 : nP A.1.1 = 0
    · rw [if_pos (Or.inr c2), if_pos (by rw [c2]; exact nI0_eq0)]
      exact mrf h0 o0 (i := 2) (by decide) (by rw [m_rf2, bI_some, sg316_59])
    rw [if_neg (show ¬ (nT A.1.1 = 0 ∨ nP A.1.1 = 0) from fun q => q.elim c c2), if_neg (nI_ne0 (show 0 < nP A.1.1 by omega) (by omega))]
    obtain ⟨a, a1, rfl⟩ := inV_of (by decide) hs
    obtain ⟨b, b0, b1, rfl⟩ := nOK_of hn
    rw [nI_clamp (by omega), nI_clamp (by omega)]
    obtain ⟨g, g1, g2, g3⟩ := m_keepAll X (d + 38) im lw tl ivz lv (k := 16) (by omega)
    rw [g1, bV_some, sg316_66, nI_l (by omega)]
    have u : ∀ x, x ≠ 51 → (upr ivz 51 g) x = ivz x := fun x hx => upr_off _ _ _ hx
    obtain ⟨iv1, lv1, w5, w6, w7, k1, k2, k3, k4, k5⟩ := m_dec_loop X (d + 32) im lw tl (l := lawOf A.1) (nI a) b1 b 0 (a, A.1.1, 0) none none none (upr ivz 51 g) (upd2 lv 46 56 (lN a)) (by omega) (by show a < 1000003; omega) ho.1.1 (by show 0 < nT A.1.1; omega) (by show 0 < nP A.1.1; omega) (by rw [u 46 (by decide)]; exact h20) (by rw [u 48 (by decide)]; exact lg) (by rw [u 48 (by decide)]; exact he) (upd2_self _ _ _ _)
    have gF := gd_decF (lawOf A.1) b (s := (a, A.1.1, 0)) ho.1.1 (by show 0 < nT A.1.1; omega) (by show 0 < nP A.1.1; omega)
    have lF := decF_le (lawOf A.1) b (a, A.1.1, 0)
    generalize decF (lawOf A.1) b (a, A.1.1, 0) = R at k1 k2 gF lF ⊢
    obtain ⟨rk, F, rb⟩ := R
    have gF : gd A.1.1 F := gF
    have lF : rb ≤ 0 + b := lF
    have k2 : eqS F (fM (iv1 48)) := k2
    obtain ⟨q, q1, q2, -⟩ := m_dec_copy X (d + 39) im lw tl lv1 (nI a) (nI b) (nI rb) w5 w6 w7 53 0 iv1 (by omega)
    have e0 : iv1 48 0 = F 0 := (k2 0 (by omega)).symm
    have e1 : iv1 48 1 = F 1 := (k2 1 (by omega)).symm
    have v48 : (upr iv1 78 q) 48 = iv1 48 := upr_off _ _ _ (by decide)
    rw [k1]
    show MR' im lw tl iv (run X (call X xT (d + 39)) false 1 xc316 215 [_, _, _, some (.inl (nI rb)), _, w5, w6, w7] [] _) _
    rw [q1, sg316_215, if_pos (by decide), v48, e0, e1]
    obtain ⟨z, z1, z2, z3⟩ := m_putBack X (d + 38) im lw tl (upd2 (upd2 (upr iv1 78 q) 46 58 (F 0)) 46 59 (F 1)) lv1 (k := 16) (by omega)
    have w51 : (upd2 (upd2 (upr iv1 78 q) 46 58 (F 0)) 46 59 (F 1)) 51 = g := by
      rw [upd2_off _ _ _ _ (by decide), upd2_off _ _ _ _ (by decide), upr_off _ _ _ (by decide)]
      funext k
      rw [k4 51 k (by simp) (by omega), upr_self]
    have w48 : (upd2 (upd2 (upr iv1 78 q) 46 58 (F 0)) 46 59 (F 1)) 48 = iv1 48 := by rw [upd2_off _ _ _ _ (by decide), upd2_off _ _ _ _ (by decide), v48]
    rw [w51] at z2
    rw [w48] at z3
    obtain ⟨eb1, eb2⟩ := eqS_back (e := A.1.1) k2 gF.2.sy (fun j hj => by rw [z2 j hj, g2 j hj, row_ux he hj]) z3
    have r51 : rowS (ivz 48) z := by
      have := k3
      rw [u 48 (by decide)] at this
      exact this.tr eb2
    rw [z1, bV_some, sg316_270, m_tellP X _ im lw tl _ lv1 (nI_p0 (by omega)), bI_some, sg316_275]
    have c : ∀ x, x ≠ 46 → x ≠ 48 → x ≠ 51 → x ≠ 67 → x ≠ 68 → x ≠ 78 → (upr (upd2 (upd2 (upr iv1 78 q) 46 58 (F 0)) 46 59 (F 1)) 48 z) x = ivz x := fun x x1 x2 x3 x4 x5 x6 => by
      rw [upr_off _ _ _ x2, upd2_off _ _ _ _ x1, upd2_off _ _ _ _ x1, upr_off _ _ _ x6]
      funext k
      rw [k4 x k (by simp [x2, x4, x5]) (by omega), u x x3]
    have f : ∀ k, k ≠ 58 → k ≠ 59 → k ≠ 34 → k ≠ 38 → (upr (upd2 (upd2 (upr iv1 78 q) 46 58 (F 0)) 46 59 (F 1)) 48 z) 46 k = ivz 46 k := fun k y1 y2 y3 y4 => by
      rw [upr_off _ _ _ (by decide), upd2_ne _ _ _ _ (by omega), upd2_ne _ _ _ _ (by omega), upr_off _ _ _ (by decide), k4 46 k (by simp) (by omega), u 46 (by decide)]
    have hR : RelM (stR A F) (upr (upd2 (upd2 (upr iv1 78 q) 46 58 (F 0)) 46 59 (F 1)) 48 z) lv1 := by
      obtain ⟨y1, y2, y3, y4, -, y6, y7, y8⟩ := h0
      refine ⟨?_, ?_, ?_, ?_, ?_, ?_, ?_, ?_⟩
      · rw [upr_self]; exact y1.sc eb1 r51
      · unfold imgsM; rw [c 49 (by decide) (by decide) (by decide) (by decide) (by decide) (by decide), c 50 (by decide) (by decide) (by decide) (by decide) (by decide) (by decide)]; exact y2
      · rw [f 13 (by decide) (by decide) (by decide) (by decide), c 55 (by decide) (by decide) (by decide) (by decide) (by decide) (by decide)]; exact y3
      · refine ⟨by rw [f 8 (by decide) (by decide) (by decide) (by decide)]; exact y4.1, fun i e hi => ?_⟩
        have lu := ho.2.2.2.1.1
        have il := getE_lt hi
        have il : i < A.2.2.2.1.length := il
        have hh := y4.2 i e hi
        have eL : (stR A F).2.2.2.1 = A.2.2.2.1 := rfl
        rw [eL]
        rw [c 52 (by decide) (by decide) (by decide) (by decide) (by decide) (by decide)]
        refine ⟨hh.1, fun j hj => ?_⟩
        rw [upr_off _ _ _ (show 51 ≠ 48 by decide), w51, g3 _ (by omega)]
        exact hh.2 j hj
      · refine Or.inr ⟨?_, ?_, fun j hj => ?_⟩
        · rw [upr_off _ _ _ (by decide), upd2_ne _ _ _ _ (by omega), upd2_self]; rfl
        · rw [upr_off _ _ _ (by decide), upd2_self]; rfl
        · rw [upr_off _ _ _ (by decide), upd2_off _ _ _ _ (by decide), upd2_off _ _ _ _ (by decide), upr_self, q2 j (by omega) hj, row_ux k2 hj]; rfl
      · unfold miscM; rw [f 18 (by decide) (by decide) (by decide) (by decide), f 54 (by decide) (by decide) (by decide) (by decide), f 11 (by decide) (by decide) (by decide) (by decide), f 1 (by decide) (by decide) (by decide) (by decide), c 47 (by decide) (by decide) (by decide) (by decide) (by decide) (by decide)]; exact y6
      · rw [f 20 (by decide) (by decide) (by decide) (by decide)]; exact y7
      · exact y8.ag (fun x hx => by rw [k5 x hx, upd2_off _ _ _ _ (by simp at hx; omega)])
    refine ⟨_, lv1, rfl, RelM.st hR _, o0.tr (outI.tr (fun x hx => c x (by omega) (by omega) (by omega) (by omega) (by omega) (by omega)) (out_upd _ _ _ (by decide) (by decide)))⟩
  · rw [if_neg hn, if_neg hn]
    exact mrf h0 o0 (i := 0) (by decide) (by rw [m_rf0, bI_some, sg316_34])
theorem O_decades (s n : Int32) : ∀ A, OKA A → OKA (sp_decades s n A).2 := by
  intro A h
  unfold sp_decades
  split
  · split
    · exact h
    · rename_i c
      have gF := gd_decF (lawOf A.1) n.toNatClampNeg (s := (s.toNatClampNeg, A.1.1, 0)) h.1.1 (by show 0 < nT A.1.1; omega) (by show 0 < nP A.1.1; omega)
      exact OKA.dw h gF.1.1
  · exact h
theorem S_decades (s n : Int32) : stepOK 184 316 [.inl s, .inl n] := step_of (C_decades s n) (M_decades s n) (O_decades s n)
