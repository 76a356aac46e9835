/-! calls: tempers, ask -/
theorem c_dget (X : XE) (d : Nat) {im lw : List (Option Nat)} {tl : List XC} (iv : Nat → Nat → Int32) (lv : Nat → Nat → Int64) {i w : Nat} (h : i * 4 + w < 40) : call X xT (d + 1) 164 [.inr (.inr (some 4)), .inl (nI i), .inl (nI w)] (SS im lw tl, iv, lv) = some (some (.inl (iv 5 (i * 4 + w))), (SS im lw tl, iv, lv)) := by
  rw [tr164, pk_mul, nI_add, if_neg (nI_pos (by omega)), if_neg (nI_ge (show i * 4 + w < 40 by omega) (by omega)), if_pos (inb_nI (by omega) (by omega)), nI_clamp (by omega)]
/-- would a province have done all that is told of it -/
def wdV (f : Sc) (l : Lw) (dd : Sc) (p : Nat) : Nat → Nat → Bool
  | 0, _ => true
  | m + 1, i => (decide (¬ dd (4 * i + 2) = nI p) || decide (reaV f l.1 l.2 (dd (4 * i + 1)).toNatClampNeg p = dd (4 * i + 3))) && wdV f l dd p m (i + 1)
theorem wdV_eq (l : Lw) (dd : Sc) {p : Nat} (hp : p < 6) {f g : Sc} (h : eqS f g) : ∀ (m i : Nat), (∀ x, x < i + m → (dd (4 * x + 1)).toNatClampNeg < 4) → wdV f l dd p m i = wdV g l dd p m i := by
  intro m
  induction m with
  | zero => intro i _; rfl
  | succ m ih => intro i hd; simp only [wdV]; rw [reaV_eq h _ _ (hd i (by omega)) hp, ih (i + 1) (fun x hx => hd x (by omega))]
theorem deed_t {f : Sc} {dn : Nat} {dd : Sc} (h : deedsOk f dn dd) (hk : okS f) {i : Nat} (hi : i < dn) : ∃ t, t < 4 ∧ dd (4 * i + 1) = nI t := by
  obtain ⟨t, p, k, h1, h2, h3, h4, -⟩ := h.2 i hi
  exact ⟨t, by have := hk.nt.2; omega, h4⟩
theorem c_wd_loop (X : XE) (d : Nat) {im lw : List (Option Nat)} {tl : List XC} {A : St} (ho : OKA A) {p : Nat} (hp : p < 6) : ∀ (m i : Nat) (w3 w4 : Option XV) (iv : Nat → Nat → Int32) (lv : Nat → Nat → Int64), i + m = A.1.2.1.1 → RelC A im lw tl iv → ∃ iv' lv', run X (call X xT (d + 5)) false 4 xc168 2 [some (.inr (.inr (some 0))), some (.inl (nI p)), some (.inl (nI i)), w3, w4] [] (SS im lw tl, iv, lv) = some (some (.inl (b2i (wdV (iv 39) (lawOf A.1) A.1.2.1.2 p m i))), (SS im lw tl, iv', lv')) ∧ agC iv iv' ∧ agL lv lv' := by
  have h10 := ho.1.2.1.1
  intro m
  induction m with
  | zero =>
    intro i w3 w4 iv lv hi h
    rw [sg168_2, tr158, bI_some, sg168_13, h.2.1.2.1, if_pos (nI_le (by omega) (by omega))]
    exact ⟨iv, lv, rfl, agC.rf, agL.rf⟩
  | succ m ih =>
    intro i w3 w4 iv lv hi h
    have hd := h.2.1.2.2.1
    obtain ⟨t, t1, t2⟩ := deed_t ho.1.2.1 ho.1.1.1 (i := i) (by omega)
    rw [sg168_2, tr158, bI_some, sg168_13, h.2.1.2.1, if_neg (nI_ge (show i < A.1.2.1.1 by omega) (by omega)), c_dget X _ _ _ (by omega), bI_some, sg168_28, hd _ (by omega), show i * 4 + 2 = 4 * i + 2 by omega]
    simp only [wdV]
    by_cases c : A.1.2.1.2 (4 * i + 2) = nI p
    · obtain ⟨r, r1, r2⟩ := c_force (X := X) (d := d + 3) (lv := lv) h ho
      obtain ⟨iv1, lv1, g1, g2, g3⟩ := c_react X d im lw tl iv lv (sc38 im lw tl) (by decide) (r2 iv (fun _ _ => rfl)).S (t := t) (p := p) t1 hp
      have e5 : iv1 5 = iv 5 := g2 5 (by decide) (by decide)
      rw [if_pos c, c_dget X _ _ _ (by omega), bI_some, sg168_47, hd _ (by omega), show i * 4 + 1 = 4 * i + 1 by omega, t2, r1, bR_some, sg168_63, g1, bI_some, sg168_68, c_dget X _ _ _ (by omega), bI_some, sg168_84, e5, hd _ (by omega), show i * 4 + 3 = 4 * i + 3 by omega, decide_eq_false (by simpa using c), Bool.false_or, nI_clamp (show t < 2 ^ 31 by omega), nI_add]
      by_cases c2 : reaV (iv 39) (lawOf A.1).1 (lawOf A.1).2 t p = A.1.2.1.2 (4 * i + 3)
      · rw [if_pos c2, decide_eq_true c2, Bool.true_and]
        obtain ⟨iv2, lv2, k1, k2, k3⟩ := ih (i + 1) (some (.inl (nI t))) (some (.inl (reaV (iv 39) (lawOf A.1).1 (lawOf A.1).2 t p))) iv1 lv1 (by omega) (h.ag g2)
        rw [g2 39 (by decide) (by decide)] at k1
        exact ⟨iv2, lv2, k1, g2.tr k2, g3.tr k3⟩
      · rw [if_neg c2, decide_eq_false c2, Bool.false_and]
        exact ⟨iv1, lv1, rfl, g2, g3⟩
    · rw [if_neg c, decide_eq_true c, Bool.true_or, Bool.true_and, nI_add]
      exact ih (i + 1) w3 w4 iv lv (by omega) h
/-- the tempers from v on that fit, in bits -/
def temV (f : Sc) (l : Lw) (dn : Nat) (dd : Sc) (p : Nat) : Nat → Nat → Int32 → Int32
  | 0, _, x => x
  | m + 1, v, x => temV f l dn dd p m (v + 1) (if wdV (pu f (11 + p) (nI v)) l dd p dn 0 = true then x ||| (nI 1 <<< (nI v &&& 31)) else x)
theorem c_tem_loop (X : XE) (d : Nat) {im lw : List (Option Nat)} {tl : List XC} {A : St} (ho : OKA A) {p : Nat} (hp : p < 6) : ∀ (m v : Nat) (x : Int32) (iv : Nat → Nat → Int32) (lv : Nat → Nat → Int64), v + m = 10 → RelC A im lw tl iv → (∀ j, j < 59 → j ≠ 11 + p → iv 39 j = A.1.1 j) → ∃ iv' lv', run X (call X xT (d + 6)) false 1 xc167 18 [some (.inr (.inr (some 0))), some (.inl (nI p)), some (.inl x), some (.inl (nI v))] [] (SS im lw tl, iv, lv) = some (some (.inl (temV A.1.1 (lawOf A.1) A.1.2.1.1 A.1.2.1.2 p m v x)), (SS im lw tl, iv', lv')) ∧ fr scrC iv iv' ∧ agL lv lv' := by
  intro m
  induction m with
  | zero =>
    intro v x iv lv hv h hf
    rw [sg167_18, if_pos (nI_lt (by omega) (by omega))]
    exact ⟨iv, lv, rfl, fr.rf, agL.rf⟩
  | succ m ih =>
    intro v x iv lv hv h hf
    have f1 : fr scrC iv (upr iv 39 (pu (iv 39) (11 + p) (nI v))) := fr_upr _ _ (by simp [scrC])
    obtain ⟨iv1, lv1, g1, g2, g3⟩ := c_wd_loop X d ho hp A.1.2.1.1 0 none none (upr iv 39 (pu (iv 39) (11 + p) (nI v))) lv (by omega) (relC_scr h f1)
    have ep : eqS (pu (iv 39) (11 + p) (nI v)) (pu A.1.1 (11 + p) (nI v)) := fun j hj => by
      by_cases c : j = 11 + p
      · subst c; rw [pu_s, pu_s]
      · rw [pu_n _ _ _ c, pu_n _ _ _ c]; exact hf j hj c
    rw [upr_self, wdV_eq _ _ hp ep _ _ (fun y hy => by obtain ⟨t, t1, t2⟩ := deed_t ho.1.2.1 ho.1.1.1 (i := y) (by omega); rw [t2, nI_clamp (by omega)]; exact t1)] at g1
    rw [sg167_18, if_neg (nI_nlt (by omega) (by omega)), c_set0 (sc38 im lw tl) (by omega), bV_some, sg167_35, tr168, g1, bI_some, sg167_40, b2i_ite, nI_add]
    have f2 : fr scrC iv iv1 := f1.tr (g2.fr (by simp [scrC]) (by simp [scrC]))
    have go : ∀ y, ∃ iv' lv', run X (call X xT (d + 6)) false 1 xc167 18 [some (.inr (.inr (some 0))), some (.inl (nI p)), some (.inl y), some (.inl (nI (v + 1)))] [] (SS im lw tl, iv1, lv1) = some (some (.inl (temV A.1.1 (lawOf A.1) A.1.2.1.1 A.1.2.1.2 p m (v + 1) y)), (SS im lw tl, iv', lv')) ∧ fr scrC iv iv' ∧ agL lv lv' := by
      intro y
      obtain ⟨iv2, lv2, k1, k2, k3⟩ := ih (v + 1) y iv1 lv1 (by omega) (relC_scr h f2) (fun j hj hn => by rw [g2 39 (by decide) (by decide), upr_self, pu_n _ _ _ hn]; exact hf j hj hn)
      exact ⟨iv2, lv2, k1, f2.tr k2, g3.tr k3⟩
    simp only [temV]
    by_cases c : wdV (pu A.1.1 (11 + p) (nI v)) (lawOf A.1) A.1.2.1.2 p A.1.2.1.1 0 = true
    · rw [if_pos c, if_pos c]; exact go _
    · rw [if_neg c, if_neg c]; exact go _
theorem c_tempers (X : XE) (d : Nat) {im lw : List (Option Nat)} {tl : List XC} (iv : Nat → Nat → Int32) (lv : Nat → Nat → Int64) {A : St} (h : RelC A im lw tl iv) (ho : OKA A) {p : Nat} (hp : p < 6) : ∃ iv' lv', call X xT (d + 7) 167 [.inr (.inr (some 0)), .inl (nI p)] (SS im lw tl, iv, lv) = some (some (.inl (temV A.1.1 (lawOf A.1) A.1.2.1.1 A.1.2.1.2 p 10 0 (nI 0))), (SS im lw tl, iv', lv')) ∧ fr scrC iv iv' ∧ agL lv lv' := by
  have f1 : fr scrC iv (upr iv 39 (va_cpy (iv 3) (iv 39) 0 0 59)) := fr_upr _ _ (by simp [scrC])
  obtain ⟨iv', lv', k1, k2, k3⟩ := c_tem_loop X d ho hp 10 0 (nI 0) (upr iv 39 (va_cpy (iv 3) (iv 39) 0 0 59)) lv (by omega) (relC_scr h f1) (fun j hj _ => by rw [upr_self]; exact ((cpy_eq _ _).tr h.eq) j hj)
  refine ⟨iv', lv', ?_, f1.tr k2, k3⟩
  rw [tr167, c_copy X (d + 5), bV_some, sg167_14, k1]
/-! the reference -/
theorem m_wd_loop (X : XE) (d : Nat) (im lw : List (Option Nat)) (tl : List XC) {l : Lw} {f : Sc} (hk : okS f) {p : Nat} (hp : p < 6) {dn : Nat} {dd : Sc} (hdn : dn ≤ 10) (hdt : ∀ i, i < dn → ∃ t, t < 4 ∧ dd (4 * i + 1) = nI t) (v2 v3 : Int32) {v : Nat} (hv : v < 10) : ∀ (m i : Nat) (so : Bool) (iv : Nat → Nat → Int32) (lv : Nat → Nat → Int64), i + m = dn → iv 46 20 = nI 0 → lawG (iv 48) l.1 l.2 → eqS f (fM (iv 48)) → iv 48 2 = nI dn → (∀ j, j < 40 → iv 48 (68 + j) = dd j) →
    ∃ (iv' : Nat → Nat → Int32) (lv' : Nat → Nat → Int64) (v6 : Int32) (b : Bool), b = (so && wdV f l dd p m i) ∧ run X (call X xT (d + 6)) false 1 xc295 40 [some (.inr (.inr (some 46))), some (.inl (nI p)), some (.inl v2), some (.inl v3), some (.inl (nI v)), some (.inl (b2i so)), some (.inl (nI (68 + 4 * i)))] [] (SS im lw tl, iv, lv) = run X (call X xT (d + 6)) false 1 xc295 15 [some (.inr (.inr (some 46))), some (.inl (nI p)), some (.inl v2), some (.inl (if b = true then v3 ||| (nI 1 <<< (nI v &&& 31)) else v3)), some (.inl (nI (v + 1))), some (.inl (b2i b)), some (.inl v6)] [] (SS im lw tl, iv', lv') ∧ agM iv iv' ∧ agN lv lv' := by
  have or0 : ∀ x : Int32, x ||| nI 0 = x := fun x => by rw [nI_0, Int32.or_zero]
  have done : ∀ (v6 : Int32) (b : Bool) (iv : Nat → Nat → Int32) (lv : Nat → Nat → Int64), (if b2i b = 0 then run X (call X xT (d + 6)) false 1 xc295 15 [some (.inr (.inr (some 46))), some (.inl (nI p)), some (.inl v2), some (.inl (v3 ||| nI 0)), some (.inl (nI v + nI 1)), some (.inl (b2i b)), some (.inl v6)] [] (SS im lw tl, iv, lv) else run X (call X xT (d + 6)) false 1 xc295 15 [some (.inr (.inr (some 46))), some (.inl (nI p)), some (.inl v2), some (.inl (v3 ||| (nI 1 <<< (nI v &&& 31)))), some (.inl (nI v + nI 1)), some (.inl (b2i b)), some (.inl v6)] [] (SS im lw tl, iv, lv)) = run X (call X xT (d + 6)) false 1 xc295 15 [some (.inr (.inr (some 46))), some (.inl (nI p)), some (.inl v2), some (.inl (if b = true then v3 ||| (nI 1 <<< (nI v &&& 31)) else v3)), some (.inl (nI (v + 1))), some (.inl (b2i b)), some (.inl v6)] [] (SS im lw tl, iv, lv) := by
    intro v6 b iv lv
    rw [b2i_ite, nI_add]
    cases b
    · rw [if_neg (by decide), if_neg (by decide), or0]
    · rw [if_pos rfl, if_pos rfl]
  intro m
  induction m with
  | zero =>
    intro i so iv lv hi h20 hl he h2 hd
    rw [sg295_40, h2, pk_mul, nI_add, if_pos (nI_le (by omega) (by omega)), done]
    exact ⟨iv, lv, _, so, by simp [wdV], rfl, agM.rf, agN.rf⟩
  | succ m ih =>
    intro i so iv lv hi h20 hl he h2 hd
    rw [sg295_40, h2, pk_mul, nI_add, if_neg (nI_ge (show 68 + 4 * i < 68 + 4 * dn by omega) (by omega))]
    cases so
    · rw [if_pos (by decide), done]
      exact ⟨iv, lv, _, false, by simp, rfl, agM.rf, agN.rf⟩
    · rw [if_neg (by decide), nI_add, if_pos (ib5k (by omega)), nI_clamp (by omega), show 68 + 4 * i + 2 = 68 + (4 * i + 2) by omega, hd _ (by omega)]
      obtain ⟨t, t1, t2⟩ := hdt i (by omega)
      have next : ∀ (so : Bool) (iv1 : Nat → Nat → Int32) (lv1 : Nat → Nat → Int64), agM iv iv1 → agN lv lv1 → so = (decide (¬ dd (4 * i + 2) = nI p) || decide (reaV f l.1 l.2 (dd (4 * i + 1)).toNatClampNeg p = dd (4 * i + 3))) → ∃ (iv' : Nat → Nat → Int32) (lv' : Nat → Nat → Int64) (v6 : Int32) (b : Bool), b = (true && wdV f l dd p (m + 1) i) ∧ run X (call X xT (d + 6)) false 1 xc295 40 [some (.inr (.inr (some 46))), some (.inl (nI p)), some (.inl v2), some (.inl v3), some (.inl (nI v)), some (.inl (b2i so)), some (.inl (nI (68 + 4 * i) + nI 4))] [] (SS im lw tl, iv1, lv1) = run X (call X xT (d + 6)) false 1 xc295 15 [some (.inr (.inr (some 46))), some (.inl (nI p)), some (.inl v2), some (.inl (if b = true then v3 ||| (nI 1 <<< (nI v &&& 31)) else v3)), some (.inl (nI (v + 1))), some (.inl (b2i b)), some (.inl v6)] [] (SS im lw tl, iv', lv') ∧ agM iv iv' ∧ agN lv lv' := by
        intro so iv1 lv1 a1 a2 hso
        have r1 : iv1 48 = iv 48 := a1.row (by decide)
        obtain ⟨iv2, lv2, v6, b, k0, k1, k2, k3⟩ := ih (i + 1) so iv1 lv1 (by omega) (by rw [a1 46 20 (by omega)]; exact h20) (by rw [r1]; exact hl) (by rw [r1]; exact he) (by rw [r1]; exact h2) (by rw [r1]; exact hd)
        refine ⟨iv2, lv2, v6, b, ?_, ?_, a1.tr k2, a2.tr k3⟩
        · rw [k0, hso]; simp only [wdV, Bool.true_and]
        · rw [nI_add, show 68 + 4 * i + 4 = 68 + 4 * (i + 1) by omega, k1]
      by_cases c : dd (4 * i + 2) = nI p
      · obtain ⟨iv1, lv1, g1, g2, g3⟩ := m_would X d im lw tl iv lv h20 hl (hk.eq he) (t := t) (p := p) t1 hp
        rw [← reaV_eq he _ _ t1 hp] at g1
        have r1 : iv1 48 = iv 48 := g2.row (by decide)
        rw [if_pos c, nI_add, if_pos (ib5k (by omega)), nI_clamp (by omega), show 68 + 4 * i + 1 = 68 + (4 * i + 1) by omega, hd _ (by omega), t2, g1, bI_some, sg295_88, nI_add, if_pos (ib5k (by omega)), nI_clamp (by omega), r1, show 68 + 4 * i + 3 = 68 + (4 * i + 3) by omega, hd _ (by omega)]
        by_cases c2 : reaV f l.1 l.2 t p = dd (4 * i + 3)
        · rw [if_pos c2]
          exact next true iv1 lv1 g2 g3 (by rw [t2, nI_clamp (by omega), decide_eq_true c2, Bool.or_true])
        · rw [if_neg c2]
          exact next false iv1 lv1 g2 g3 (by rw [t2, nI_clamp (by omega), decide_eq_false c2, decide_eq_false (by simpa using c)]; rfl)
      · rw [if_neg c]
        exact next true iv lv agM.rf agN.rf (by rw [decide_eq_true c, Bool.true_or])
theorem m_tem_loop (X : XE) (d : Nat) (im lw : List (Option Nat)) (tl : List XC) {l : Lw} {f : Sc} (hk : okS f) {p : Nat} (hp : p < 6) {dn : Nat} {dd : Sc} (hdn : dn ≤ 10) (hdt : ∀ i, i < dn → ∃ t, t < 4 ∧ dd (4 * i + 1) = nI t) : ∀ (m v : Nat) (x : Int32) (w5 w6 : Option XV) (iv : Nat → Nat → Int32) (lv : Nat → Nat → Int64) (F : Sc), v + m = 10 → iv 46 20 = nI 0 → lawG (iv 48) l.1 l.2 → eqS F (fM (iv 48)) → (∀ j, j < 59 → j ≠ 11 + p → F j = f j) → iv 48 2 = nI dn → (∀ j, j < 40 → iv 48 (68 + j) = dd j) →
    ∃ iv' lv', run X (call X xT (d + 6)) false 1 xc295 15 [some (.inr (.inr (some 46))), some (.inl (nI p)), some (.inl (f (11 + p))), some (.inl x), some (.inl (nI v)), w5, w6] [] (SS im lw tl, iv, lv) = some (some (.inl (temV f l dn dd p m v x)), (SS im lw tl, iv', lv')) ∧ eqS f (fM (iv' 48)) ∧ rowS (iv 48) (iv' 48) ∧ frG [48] iv iv' ∧ agN lv lv' := by
  intro m
  induction m with
  | zero =>
    intro v x w5 w6 iv lv F hv h20 hl he hF h2 hd
    rw [sg295_15, if_pos (nI_le (by omega) (by omega)), nI_add, if_pos (ib5k (by omega)), nI_clamp (by omega), ← mx_t hp]
    refine ⟨_, lv, rfl, ?_, ?_, (fr_upd _ _ _ (by simp)).G, agN.rf⟩
    · rw [upd2_rw]
      refine eqS.tr (fun j hj => ?_) (eqS_pu he (by omega) _)
      by_cases c : j = 11 + p
      · subst c; rw [pu_s]
      · rw [pu_n _ _ _ c, hF j hj c]
    · rw [upd2_rw]; exact rowS_pu _ (by omega) _
  | succ m ih =>
    intro v x w5 w6 iv lv F hv h20 hl he hF h2 hd
    rw [sg295_15, if_neg (nI_ge (show v < 10 by omega) (by omega)), nI_add, if_pos (ib5k (by omega)), nI_clamp (by omega), ← mx_t hp]
    have he1 : eqS (pu f (11 + p) (nI v)) (fM ((upd2 iv 48 (mx (11 + p)) (nI v)) 48)) := by
      rw [upd2_rw]
      refine eqS.tr (fun j hj => ?_) (eqS_pu he (by omega) _)
      by_cases c : j = 11 + p
      · subst c; rw [pu_s, pu_s]
      · rw [pu_n _ _ _ c, pu_n _ _ _ c, hF j hj c]
    have hr1 : rowS (iv 48) ((upd2 iv 48 (mx (11 + p)) (nI v)) 48) := by rw [upd2_rw]; exact rowS_pu _ (by omega) _
    have ok1 : okS (pu f (11 + p) (nI v)) := hk.put (by rw [tp_t hp]; omega)
    obtain ⟨iv1, lv1, v6, b, g0, g1, g2, g3⟩ := m_wd_loop X d im lw tl (l := l) ok1 hp hdn hdt (f (11 + p)) x (v := v) (by omega) dn 0 true (upd2 iv 48 (mx (11 + p)) (nI v)) lv (by omega) (by rw [upd2_ne _ _ _ _ (by omega)]; exact h20) (hl.sc hr1) he1 (by rw [hr1 2 (by omega)]; exact h2) (fun j hj => by rw [hr1 _ (by omega)]; exact hd j hj)
    have r1 : iv1 48 = (upd2 iv 48 (mx (11 + p)) (nI v)) 48 := g2.row (by decide)
    have f1 : frG [48] iv iv1 := ((fr_upd _ _ _ (by simp)).G).tr g2.G
    have hr2 : rowS (iv 48) (iv1 48) := by rw [r1]; exact hr1
    obtain ⟨iv2, lv2, k1, k2, k3, k4, k5⟩ := ih (v + 1) (if b = true then x ||| (nI 1 <<< (nI v &&& 31)) else x) (some (.inl (b2i b))) (some (.inl v6)) iv1 lv1 (pu f (11 + p) (nI v)) (by omega) (by rw [f1 46 20 (by simp) (by omega)]; exact h20) (hl.sc hr2) (by rw [r1]; exact he1) (fun j hj hn => pu_n _ _ _ hn) (by rw [hr2 2 (by omega)]; exact h2) (fun j hj => by rw [hr2 _ (by omega)]; exact hd j hj)
    refine ⟨iv2, lv2, ?_, k2, hr2.tr k3, f1.tr k4, g3.tr k5⟩
    have g1' := g1
    rw [show 68 + 4 * 0 = 68 by omega] at g1'
    show run X (call X xT (d + 6)) false 1 xc295 40 [_, _, _, _, _, some (.inl (b2i true)), _] _ _ = _
    rw [g1', k1]
    simp only [temV, g0, Bool.true_and]
theorem m_tempers (X : XE) (d : Nat) (im lw : List (Option Nat)) (tl : List XC) (iv : Nat → Nat → Int32) (lv : Nat → Nat → Int64) {A : St} (h : RelM A iv lv) (ho : OKA A) {p : Nat} (hp : p < 6) : ∃ iv' lv', call X xT (d + 7) 295 [.inr (.inr (some 46)), .inl (nI p)] (SS im lw tl, iv, lv) = some (some (.inl (temV A.1.1 (lawOf A.1) A.1.2.1.1 A.1.2.1.2 p 10 0 (nI 0))), (SS im lw tl, iv', lv')) ∧ eqS A.1.1 (fM (iv' 48)) ∧ rowS (iv 48) (iv' 48) ∧ frG [48] iv iv' ∧ agN lv lv' := by
  obtain ⟨p0, p1, t0, t1, hk, he, hk2, h20⟩ := mfacts h ho
  have et : iv 48 (14 + p) = A.1.1 (11 + p) := by rw [he (11 + p) (by omega), fM, mx_t hp]
  rw [tr295, nI_add, if_pos (ib5k (by omega)), nI_clamp (by omega), et]
  exact m_tem_loop X d im lw tl (l := lawOf A.1) hk hp ho.1.2.1.1 (fun i hi => deed_t ho.1.2.1 hk hi) 10 0 (nI 0) none none iv lv A.1.1 (by omega) h20 (h.lawG ho) he (fun _ _ _ => rfl) h.1.2.1 h.1.2.2.1
def sp_tempers (p : Int32) (A : St) : Int32 × St := (if hasV (nI (nP A.1.1)) p = true then temV A.1.1 (lawOf A.1) A.1.2.1.1 A.1.2.1.2 p.toNatClampNeg 10 0 (nI 0) else -1, A)
theorem mq4 {im lw : List (Option Nat)} {tl : List XC} {iv ivz iv' : Nat → Nat → Int32} {lv lv' : Nat → Nat → Int64} {A : St} (h0 : RelM A ivz lv) (o0 : outI iv ivz) (a : eqS A.1.1 (fM (iv' 48))) (b : rowS (ivz 48) (iv' 48)) {L : List Nat} (c : frG L ivz iv') (hL : ∀ x, x ∈ L → x = 48 ∨ x = 67 ∨ x = 68) (n : agN lv lv') {r : Option XR} {v : Int32} (e : r = some (some (.inl v), (SS im lw tl, iv', lv'))) : MR' im lw tl iv r (v, A) := by
  obtain ⟨x, y, c1, c2, c3⟩ := mq3 h0 a b (frG_keep c hL) n (c.out (fun x hx => by have := hL x hx; omega)) e
  exact ⟨x, y, c1, c2, o0.tr c3⟩
theorem S_tempers (p : Int32) : stepOK 166 294 [.inl p] := by
  refine step_of (F := sp_tempers p) ?_ ?_ (fun _ h => h)
  · intro X hX d im lw tl iv lv A h ho
    show CR' im lw tl iv lv _ _
    obtain ⟨p0, p1, t0, t1, hk⟩ := cfacts h ho
    unfold sp_tempers
    rw [tr166, c_hasP (sc2 im lw tl), bI_some, sg166_11, b2i_ite, p0]
    by_cases hp : hasV (nI (nP A.1.1)) p = true
    · rw [if_pos hp, if_pos hp]
      obtain ⟨a, ha, rfl⟩ := hasV_of (by omega) hp
      rw [nI_clamp (show a < 2 ^ 31 by omega)]
      obtain ⟨iv', lv', g1, g2, g3⟩ := c_tempers X (d + 32) iv lv h ho (p := a) (by omega)
      exact cq3 h g2 g3 (by rw [g1, bI_some, sg166_19])
    · rw [if_neg hp, if_neg hp]
      exact cq h rfl
  · intro X d im lw tl iv lv A h ho
    show MR' im lw tl iv _ _
    have h0 := h.thr (nI 0)
    obtain ⟨p0, p1, t0, t1, hk, he, hk2, h20⟩ := mfacts h0 ho
    unfold sp_tempers
    rw [tr294, m_isP X (d + 37) im lw tl _ lv p1 p0, bI_some, sg294_10, b2i_ite]
    by_cases hp : hasV (nI (nP A.1.1)) p = true
    · rw [if_pos hp, if_pos hp]
      obtain ⟨a, ha, rfl⟩ := hasV_of (by omega) hp
      rw [nI_clamp (show a < 2 ^ 31 by omega)]
      obtain ⟨iv', lv', g1, g2, g3, g4, g5⟩ := m_tempers X (d + 32) im lw tl _ lv h0 ho (p := a) (by omega)
      exact mq4 h0 (out0 iv) g2 g3 g4 (by intro x hx; simp at hx; omega) g5 (by rw [g1, bI_some, sg294_18])
    · rw [if_neg hp, if_neg hp]
      exact mq h rfl
