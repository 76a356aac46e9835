/-! calls: least, calmest, compare -/
theorem c_copy (X : XE) (d : Nat) (im lw : List (Option Nat)) (tl : List XC) (iv : Nat → Nat → Int32) (lv : Nat → Nat → Int64) : call X xT (d + 1) 109 [.inr (.inr (some 38)), .inr (.inr (some 2))] (SS im lw tl, iv, lv) = some (none, (SS im lw tl, upr iv 39 (va_cpy (iv 3) (iv 39) 0 0 59), lv)) := by
  rw [tr109c38_2, xcopy_ok iv lv (nb := 59) (na := 59) rfl rfl (by omega) (by omega) (by omega) (by omega), sg109_15c38_2]
theorem cpy_eq (f g : Sc) : eqS (va_cpy f g 0 0 59) f := fun j hj => by rw [pk_cpy_in (by omega) (by omega), show 0 + (j - 0) = j by omega]
/-- changes of the class that touch no cell that the relation speaks of -/
def scrC : List Nat := [18, 20, 39, 44]
theorem relC_scr {A : St} {im lw : List (Option Nat)} {tl : List XC} {iv iv' : Nat → Nat → Int32} (h : RelC A im lw tl iv) (e : fr scrC iv iv') : RelC A im lw tl iv' := h.fr (fun a ha => e a (by simp [ncC] at ha; simp [scrC]; omega)) (fun a ha => e a (by simp [scrC]; omega))
theorem scr_mid {iv iv' : Nat → Nat → Int32} (e : fr scrC iv iv') : midI iv iv' := e.mid (by intro x hx; simp [scrC] at hx; omega)
theorem cq3 {im lw : List (Option Nat)} {tl : List XC} {iv iv' : Nat → Nat → Int32} {lv lv' : Nat → Nat → Int64} {A : St} (h : RelC A im lw tl iv) (a : fr scrC iv iv') (b : agL lv lv') {r : Option XR} {v : Int32} (e : r = some (some (.inl v), (SS im lw tl, iv', lv'))) : CR' im lw tl iv lv r (v, A) := ⟨iv', lv', e, relC_scr h a, scr_mid a, b.mid⟩
/-- the reference changes its row and puts it back -/
theorem mq3 {im lw : List (Option Nat)} {tl : List XC} {iv iv' : Nat → Nat → Int32} {lv lv' : Nat → Nat → Int64} {A : St} (h : RelM A iv lv) (a : eqS A.1.1 (fM (iv' 48))) (b : rowS (iv 48) (iv' 48)) (c : ∀ a k, (a ∈ [47, 49, 50, 51, 52, 55, 78] ∨ (a = 46 ∧ k ∈ [1, 8, 11, 13, 18, 20, 54, 58, 59])) → iv' a k = iv a k) (n : agN lv lv') (o : outI iv iv') {r : Option XR} {v : Int32} (e : r = some (some (.inl v), (SS im lw tl, iv', lv'))) : MR' im lw tl iv r (v, A) := ⟨iv', lv', e, RelM.sc h a b c (h.c.N n), o⟩
/-- how many feedings, from k on -/
def leaV (l : Lw) (t p : Nat) : Nat → Nat → Sc → Int32
  | 0, _, _ => -1
  | m + 1, k, f => if loyV f l.1 l.2 t p = true then nI k else leaV l t p m (k + 1) (eatF f t p)
theorem leaV_eq (l : Lw) {t p : Nat} (ht : t < 4) (hp : p < 6) : ∀ (m k : Nat) {f g : Sc}, eqS f g → leaV l t p m k f = leaV l t p m k g := by
  intro m
  induction m with
  | zero => intro k f g _; rfl
  | succ m ih => intro k f g h; simp only [leaV]; rw [loyV_eq h _ _ ht hp, ih (k + 1) (eatF_eq h ht hp)]
theorem c_least_loop (X : XE) (d : Nat) {im lw : List (Option Nat)} {tl : List XC} {A : St} (ho : OKA A) {t p : Nat} (ht : t < 4) (hp : p < 6) : ∀ (m k : Nat) (iv : Nat → Nat → Int32) (lv : Nat → Nat → Int64), k + m = 10 → RelC A im lw tl iv → ∃ iv' lv', run X (call X xT (d + 6)) false 1 xc152 16 [some (.inr (.inr (some 0))), some (.inl (nI t)), some (.inl (nI p)), some (.inl (nI k))] [] (SS im lw tl, iv, lv) = some (some (.inl (leaV (lawOf A.1) t p m k (iv 39))), (SS im lw tl, iv', lv')) ∧ fr scrC iv iv' ∧ agL lv lv' := by
  intro m
  induction m with
  | zero =>
    intro k iv lv hk h
    rw [sg152_16, if_pos (nI_lt (by omega) (by omega))]
    exact ⟨iv, lv, rfl, fr.rf, agL.rf⟩
  | succ m ih =>
    intro k iv lv hk h
    obtain ⟨r, r1, r2⟩ := c_force (X := X) (d := d + 4) (lv := lv) h ho
    obtain ⟨iv1, lv1, g1, g2, g3⟩ := c_loyal X (d + 1) im lw tl iv lv (sc38 im lw tl) (by decide) (r2 iv (fun _ _ => rfl)).S ht hp
    rw [sg152_16, if_neg (nI_nlt (by omega) (by omega)), r1, bR_some, sg152_37, g1, bI_some, sg152_42, b2i_ite]
    simp only [leaV]
    by_cases c : loyV (iv 39) (lawOf A.1).1 (lawOf A.1).2 t p = true
    · rw [if_pos c, if_pos c]
      exact ⟨iv1, lv1, rfl, g2.fr (by simp [scrC]) (by simp [scrC]), g3⟩
    · have e1 : iv1 39 = iv 39 := g2 39 (by decide) (by decide)
      rw [if_neg c, if_neg c, c_eat (sc38 im lw tl) ht hp, bV_some, sg152_56, nI_add, e1]
      have f1 : fr scrC iv (upr iv1 39 (eatF (iv 39) t p)) := (g2.fr (by simp [scrC]) (by simp [scrC])).tr (fr_upr _ _ (by simp [scrC]))
      obtain ⟨iv2, lv2, k1, k2, k3⟩ := ih (k + 1) (upr iv1 39 (eatF (iv 39) t p)) lv1 (by omega) (relC_scr h f1)
      rw [upr_self] at k1
      exact ⟨iv2, lv2, k1, f1.tr k2, g3.tr k3⟩
theorem c_leastFor (X : XE) (d : Nat) {im lw : List (Option Nat)} {tl : List XC} (iv : Nat → Nat → Int32) (lv : Nat → Nat → Int64) {A : St} (h : RelC A im lw tl iv) (ho : OKA A) {t p : Nat} (ht : t < 4) (hp : p < 6) : ∃ iv' lv', call X xT (d + 7) 152 [.inr (.inr (some 0)), .inl (nI t), .inl (nI p)] (SS im lw tl, iv, lv) = some (some (.inl (leaV (lawOf A.1) t p 10 0 A.1.1)), (SS im lw tl, iv', lv')) ∧ fr scrC iv iv' ∧ agL lv lv' := by
  have f1 : fr scrC iv (upr iv 39 (va_cpy (iv 3) (iv 39) 0 0 59)) := fr_upr _ _ (by simp [scrC])
  obtain ⟨iv', lv', k1, k2, k3⟩ := c_least_loop X d ho ht hp 10 0 (upr iv 39 (va_cpy (iv 3) (iv 39) 0 0 59)) lv (by omega) (relC_scr h f1)
  rw [upr_self, leaV_eq _ ht hp _ _ ((cpy_eq _ _).tr h.eq)] at k1
  refine ⟨iv', lv', ?_, f1.tr k2, k3⟩
  rw [tr152, c_copy X (d + 5), bV_some, sg152_14, k1]
theorem m_least_loop (X : XE) (d : Nat) (im lw : List (Option Nat)) (tl : List XC) {l : Lw} {f0 : Sc} {t p : Nat} (ht : t < 4) (hp : p < 6) (v3 v4 : Int32) (h3 : v3 = f0 (5 + p)) (h4 : v4 = f0 (35 + (t * 6 + p))) : ∀ (m k : Nat) (iv : Nat → Nat → Int32) (lv : Nat → Nat → Int64) (f : Sc), k + m = 10 → iv 46 20 = nI 0 → lawG (iv 48) l.1 l.2 → okS f → eqS f (fM (iv 48)) → (∀ j, j < 59 → j ≠ 5 + p → j ≠ 35 + (t * 6 + p) → f j = f0 j) →
    ∃ iv' lv', run X (call X xT (d + 6)) false 1 xc286 29 [some (.inr (.inr (some 46))), some (.inl (nI t)), some (.inl (nI p)), some (.inl v3), some (.inl v4), some (.inl (nI k))] [] (SS im lw tl, iv, lv) = some (some (.inl (leaV l t p m k f)), (SS im lw tl, iv', lv')) ∧ eqS f0 (fM (iv' 48)) ∧ rowS (iv 48) (iv' 48) ∧ frG [48] iv iv' ∧ agN lv lv' := by
  have fin : ∀ (iv1 : Nat → Nat → Int32) (F : Sc), eqS F (fM (iv1 48)) → (∀ j, j < 59 → j ≠ 5 + p → j ≠ 35 + (t * 6 + p) → F j = f0 j) → eqS f0 (fM ((upd2 (upd2 iv1 48 (8 + p) v3) 48 (34 + 6 * t + p) v4) 48)) ∧ rowS (iv1 48) ((upd2 (upd2 iv1 48 (8 + p) v3) 48 (34 + 6 * t + p) v4) 48) ∧ frG [48] iv1 (upd2 (upd2 iv1 48 (8 + p) v3) 48 (34 + 6 * t + p) v4) := by
    intro iv1 F e1 e2
    rw [upd2_rw, upd2_rw, ← mx_h hp, ← mx_y ht hp]
    refine ⟨eqS.tr ?_ (eqS_pu (eqS_pu e1 (by omega) v3) (by omega) v4), (rowS_pu _ (by omega) _).tr (rowS_pu _ (by omega) _), ((fr_upd _ _ _ (by simp)).tr (fr_upd _ _ _ (by simp))).G⟩
    intro j hj
    by_cases c1 : j = 35 + (t * 6 + p)
    · subst c1; rw [pu_s, h4]
    rw [pu_n _ _ _ c1]
    by_cases c2 : j = 5 + p
    · subst c2; rw [pu_s, h3]
    rw [pu_n _ _ _ c2]
    exact (e2 j hj c2 c1).symm
  intro m
  induction m with
  | zero =>
    intro k iv lv f hk h20 hl ho he hf
    rw [sg286_29, if_pos (nI_le (by omega) (by omega)), nI_add, if_pos (ib5k (by omega)), pk_mul, nI_add, nI_add, if_pos (ib5k (by omega)), nI_clamp (by omega), nI_clamp (by omega), if_neg (nI_ge (by omega) (by omega))]
    obtain ⟨q1, q2, q3⟩ := fin iv f he hf
    exact ⟨_, lv, rfl, q1, q2, q3, agN.rf⟩
  | succ m ih =>
    intro k iv lv f hk h20 hl ho he hf
    obtain ⟨iv1, lv1, g1, g2, g3⟩ := m_loyal X d im lw tl iv lv h20 hl (ho.eq he) ht hp
    rw [← loyV_eq he _ _ ht hp] at g1
    have r1 : iv1 48 = iv 48 := g2.row (by decide)
    rw [sg286_29, if_neg (nI_ge (show k < 10 by omega) (by omega)), g1, bI_some, sg286_42, b2i_ite]
    simp only [leaV]
    by_cases c : loyV f l.1 l.2 t p = true
    · rw [if_pos c, if_pos c, nI_add, if_pos (ib5k (by omega)), pk_mul, nI_add, nI_add, if_pos (ib5k (by omega)), nI_clamp (by omega), nI_clamp (by omega), if_pos (nI_le (by omega) (by omega))]
      obtain ⟨q1, q2, q3⟩ := fin iv1 f (by rw [r1]; exact he) hf
      rw [r1] at q2
      exact ⟨_, lv1, rfl, q1, q2, g2.G.tr q3, g3⟩
    · rw [if_neg c, if_neg c]
      obtain ⟨iv2, k1, k2, k3, k4⟩ := m_feedIt X (d + 4) im lw tl iv1 lv1 (t := t) (p := p) (f := f) (by rw [r1]; exact he) ht hp
      have ofe : okS (eatF f t p) := by
        obtain ⟨a, a1, a2⟩ := near_ok (f (5 + p) + (-3)) (top := 9) (by decide)
        obtain ⟨b, b1, b2⟩ := near_ok (f (35 + (t * 6 + p)) + nI 1) (top := 9) (by decide)
        unfold eatF
        rw [a2, b2]
        exact (ho.put (by rw [tp_h hp]; exact a1)).put (by rw [tp_y ht hp]; exact b1)
      rw [r1] at k3
      obtain ⟨iv3, lv3, m1, m2, m3, m4, m5⟩ := ih (k + 1) iv2 lv1 (eatF f t p) (by omega) (by rw [k4 46 (by simp), g2 46 20 (by omega)]; exact h20) (hl.sc k3) ofe k2 (fun j hj c1 c2 => by unfold eatF; rw [pu_n _ _ _ c2, pu_n _ _ _ c1]; exact hf j hj c1 c2)
      rw [k1, bV_some, sg286_51, nI_add, m1]
      exact ⟨iv3, lv3, rfl, m2, k3.tr m3, (g2.G.tr k4.G).tr m4, g3.tr m5⟩
theorem m_leastFor (X : XE) (d : Nat) (im lw : List (Option Nat)) (tl : List XC) (iv : Nat → Nat → Int32) (lv : Nat → Nat → Int64) (h20 : iv 46 20 = nI 0) {l : Lw} (hl : lawG (iv 48) l.1 l.2) {f : Sc} (ho : okS f) (he : eqS f (fM (iv 48))) {t p : Nat} (ht : t < 4) (hp : p < 6) : ∃ iv' lv', call X xT (d + 7) 286 [.inr (.inr (some 46)), .inl (nI t), .inl (nI p)] (SS im lw tl, iv, lv) = some (some (.inl (leaV l t p 10 0 f)), (SS im lw tl, iv', lv')) ∧ eqS f (fM (iv' 48)) ∧ rowS (iv 48) (iv' 48) ∧ frG [48] iv iv' ∧ agN lv lv' := by
  rw [tr286, nI_add, if_pos (ib5k (by omega)), pk_mul, nI_add, nI_add, if_pos (ib5k (by omega)), nI_clamp (by omega), nI_clamp (by omega)]
  exact m_least_loop X d im lw tl ht hp _ _ (by rw [he _ (by omega), fM, mx_h hp]) (by rw [he _ (by omega), fM, mx_y ht hp]) 10 0 iv lv f (by omega) h20 hl ho he (fun _ _ _ _ => rfl)
/-- all provinces' feedings -/
def leaS (f : Sc) (l : Lw) (t : Nat) : Nat → Nat → Option Int32 → Option Int32
  | 0, _, x => x
  | m + 1, p, x => leaS f l t m (p + 1) (if leaV l t p 10 0 f = -1 then none else x.map (fun y => y + leaV l t p 10 0 f))
theorem leaS_none (f : Sc) (l : Lw) (t : Nat) : ∀ (m p : Nat), leaS f l t m p none = none := by
  intro m
  induction m with
  | zero => intro p; rfl
  | succ m ih => intro p; simp only [leaS, Option.map_none]; split <;> exact ih _
def sp_least (t w : Int32) (A : St) : Int32 × St := (if hasV (nI (nT A.1.1)) t = true then (if inV w (nI (nP A.1.1)) = true then (if w.toNatClampNeg = 0 then (leaS A.1.1 (lawOf A.1) t.toNatClampNeg (nP A.1.1) 0 (some (nI 0))).getD (-1) else leaV (lawOf A.1) t.toNatClampNeg (w.toNatClampNeg - 1) 10 0 A.1.1) else -1) else -1, A)
theorem c_leastS_loop (X : XE) (d : Nat) {im lw : List (Option Nat)} {tl : List XC} {A : St} (ho : OKA A) {t : Nat} (ht : t < 4) (v2 : Int32) {n : Nat} (hn : n ≤ 6) : ∀ (m p : Nat) (x : Int32) (w6 : Option XV) (iv : Nat → Nat → Int32) (lv : Nat → Nat → Int64), p + m = n → RelC A im lw tl iv → ∃ iv' lv', run X (call X xT (d + 7)) false 1 xc151 54 [some (.inr (.inr (some 0))), some (.inl (nI t)), some (.inl v2), some (.inl (nI n)), some (.inl x), some (.inl (nI p)), w6] [] (SS im lw tl, iv, lv) = some (some (.inl ((leaS A.1.1 (lawOf A.1) t m p (some x)).getD (-1))), (SS im lw tl, iv', lv')) ∧ fr scrC iv iv' ∧ agL lv lv' := by
  intro m
  induction m with
  | zero =>
    intro p x w6 iv lv hp h
    rw [sg151_54, if_pos (nI_le (by omega) (by omega))]
    exact ⟨iv, lv, rfl, fr.rf, agL.rf⟩
  | succ m ih =>
    intro p x w6 iv lv hp h
    obtain ⟨iv1, lv1, g1, g2, g3⟩ := c_leastFor X d iv lv h ho ht (p := p) (by omega)
    rw [sg151_54, if_neg (nI_ge (show p < n by omega) (by omega)), g1, bI_some, sg151_67]
    simp only [leaS]
    by_cases c : leaV (lawOf A.1) t p 10 0 A.1.1 = -1
    · rw [if_pos c, if_pos c, leaS_none]
      exact ⟨iv1, lv1, rfl, g2, g3⟩
    · rw [if_neg c, if_neg c, nI_add, Option.map_some]
      obtain ⟨iv2, lv2, k1, k2, k3⟩ := ih (p + 1) (x + leaV (lawOf A.1) t p 10 0 A.1.1) (some (.inl (leaV (lawOf A.1) t p 10 0 A.1.1))) iv1 lv1 (by omega) (relC_scr h g2)
      exact ⟨iv2, lv2, k1, g2.tr k2, g3.tr k3⟩
theorem C_least (t w : Int32) : CSpec 151 [.inl t, .inl w] (sp_least t w) := by
  intro X hX d im lw tl iv lv A h ho
  show CR' im lw tl iv lv _ _
  obtain ⟨p0, p1, t0, t1, hk⟩ := cfacts h ho
  unfold sp_least
  rw [tr151, c_prov0 (sc2 im lw tl), bI_some, sg151_10, c_hasT (sc2 im lw tl), bI_some, sg151_22, b2i_ite, t0, p0]
  by_cases ht : hasV (nI (nT A.1.1)) t = true
  · rw [if_pos ht, if_pos ht, c_within X (d + 38), bI_some, sg151_30, b2i_ite]
    by_cases hw : inV w (nI (nP A.1.1)) = true
    · rw [if_pos hw, if_pos hw]
      obtain ⟨a, ha, rfl⟩ := hasV_of (by omega) ht
      obtain ⟨b, hb, rfl⟩ := inV_of (by omega) hw
      rw [nI_clamp (show a < 2 ^ 31 by omega), nI_clamp (show b < 2 ^ 31 by omega)]
      by_cases b0 : b = 0
      · rw [if_pos b0, if_pos (by rw [b0]; decide)]
        obtain ⟨iv', lv', g1, g2, g3⟩ := c_leastS_loop X (d + 32) ho (t := a) (by omega) (nI b) (n := nP A.1.1) p1 (nP A.1.1) 0 (nI 0) none iv lv (by omega) h
        exact cq3 h g2 g3 g1
      · rw [if_neg b0, if_neg (nI_nle (by omega) (by omega)), show nI b - nI 1 = nI (b - 1) by rw [pk_sub (by omega)]]
        obtain ⟨iv', lv', g1, g2, g3⟩ := c_leastFor X (d + 32) iv lv h ho (t := a) (p := b - 1) (by omega) (by omega)
        exact cq3 h g2 g3 (by rw [g1, bI_some, sg151_47])
    · rw [if_neg hw, if_neg hw]
      exact cq h rfl
  · rw [if_neg ht, if_neg ht]
    exact cq h rfl
theorem m_leastS_loop (X : XE) (d : Nat) (im lw : List (Option Nat)) (tl : List XC) {l : Lw} {f : Sc} (ho : okS f) {t : Nat} (ht : t < 4) (v2 : Int32) {n : Nat} (hn : n ≤ 6) (hn0 : f 0 = nI n) : ∀ (m p : Nat) (x : Int32) (c : Bool) (w6 : Option XV) (iv : Nat → Nat → Int32) (lv : Nat → Nat → Int64), p + m = n → iv 46 20 = nI 0 → lawG (iv 48) l.1 l.2 → eqS f (fM (iv 48)) →
    ∃ iv' lv', run X (call X xT (d + 7)) false 1 xc285 52 [some (.inr (.inr (some 46))), some (.inl (nI t)), some (.inl v2), some (.inl x), some (.inl (b2i c)), some (.inl (nI p)), w6] [] (SS im lw tl, iv, lv) = some (some (.inl ((leaS f l t m p (if c = true then some x else none)).getD (-1))), (SS im lw tl, iv', lv')) ∧ eqS f (fM (iv' 48)) ∧ rowS (iv 48) (iv' 48) ∧ frG [48] iv iv' ∧ agN lv lv' := by
  intro m
  induction m with
  | zero =>
    intro p x c w6 iv lv hp h20 hl he
    have n0 : iv 48 0 = nI n := (he 0 (by omega)).symm.trans hn0
    rw [sg285_52, n0, if_pos (nI_le (by omega) (by omega)), b2i_ite]
    refine ⟨iv, lv, ?_, he, rowS.rf, frG.rf, agN.rf⟩
    cases c <;> rfl
  | succ m ih =>
    intro p x c w6 iv lv hp h20 hl he
    have n0 : iv 48 0 = nI n := (he 0 (by omega)).symm.trans hn0
    obtain ⟨iv1, lv1, g1, g2, g3, g4, g5⟩ := m_leastFor X d im lw tl iv lv h20 hl ho he ht (p := p) (by omega)
    rw [sg285_52, n0, if_neg (nI_ge (show p < n by omega) (by omega)), g1, bI_some, sg285_70, b2i_ite, nI_add]
    have go : ∀ (c2 : Bool), (if c2 = true then some (x + leaV l t p 10 0 f) else none) = (if leaV l t p 10 0 f = -1 then none else (if c = true then some x else none : Option Int32).map (fun y => y + leaV l t p 10 0 f)) → ∃ iv' lv', run X (call X xT (d + 7)) false 1 xc285 52 [some (.inr (.inr (some 46))), some (.inl (nI t)), some (.inl v2), some (.inl (x + leaV l t p 10 0 f)), some (.inl (b2i c2)), some (.inl (nI (p + 1))), some (.inl (leaV l t p 10 0 f))] [] (SS im lw tl, iv1, lv1) = some (some (.inl ((leaS f l t (m + 1) p (if c = true then some x else none)).getD (-1))), (SS im lw tl, iv', lv')) ∧ eqS f (fM (iv' 48)) ∧ rowS (iv 48) (iv' 48) ∧ frG [48] iv iv' ∧ agN lv lv' := by
      intro c2 hc2
      obtain ⟨iv2, lv2, k1, k2, k3, k4, k5⟩ := ih (p + 1) (x + leaV l t p 10 0 f) c2 (some (.inl (leaV l t p 10 0 f))) iv1 lv1 (by omega) (by rw [g4 46 20 (by simp) (by omega)]; exact h20) (hl.sc g3) g2
      rw [hc2] at k1
      exact ⟨iv2, lv2, k1, k2, g3.tr k3, g4.tr k4, g5.tr k5⟩
    cases c
    · rw [if_neg (by decide)]
      exact go false (by simp)
    · rw [if_pos rfl]
      by_cases c3 : leaV l t p 10 0 f = -1
      · rw [if_pos c3]
        exact go false (by simp [c3])
      · rw [if_neg c3]
        exact go true (by simp [c3])
theorem M_least (t w : Int32) : MSpec 285 [.inl t, .inl w] (sp_least t w) := by
  intro X d im lw tl iv lv A h ho
  show MR' im lw tl iv _ _
  have h0 := h.thr (nI 0)
  obtain ⟨p0, p1, t0, t1, hk, he, hk2, h20⟩ := mfacts h0 ho
  have lg := h0.lawG ho
  unfold sp_least
  rw [tr285]
  generalize hg : upd2 iv 46 0 (nI 0) = ivz at h0 p0 t0 he hk2 h20 lg
  have o0 : outI iv ivz := hg ▸ out0 iv
  have fin : ∀ {iv' : Nat → Nat → Int32} {lv' : Nat → Nat → Int64} {r : Option XR} {v : Int32}, eqS A.1.1 (fM (iv' 48)) → rowS (ivz 48) (iv' 48) → frG [48] ivz iv' → agN lv lv' → r = some (some (.inl v), (SS im lw tl, iv', lv')) → MR' im lw tl iv r (v, A) := by
    intro iv' lv' r v q1 q2 q3 q4 q5
    obtain ⟨a, b, c1, c2, c3⟩ := mq3 h0 q1 q2 (frG_keep q3 (by intro x hx; simp at hx; omega)) q4 (q3.out (by intro x hx; simp at hx; omega)) q5
    exact ⟨a, b, c1, c2, o0.tr c3⟩
  rw [m_isT X (d + 37) im lw tl _ lv t1 t0, bI_some, sg285_10, b2i_ite]
  by_cases ht : hasV (nI (nT A.1.1)) t = true
  · rw [if_pos ht, if_pos ht, p0, nI_l (by omega), m_in X (d + 38), bI_some, sg285_26, b2i_ite, in_inV w (by omega)]
    by_cases hw : inV w (nI (nP A.1.1)) = true
    · rw [if_pos hw, if_pos hw]
      obtain ⟨a, ha, rfl⟩ := hasV_of (by omega) ht
      obtain ⟨b, hb, rfl⟩ := inV_of (by omega) hw
      rw [nI_clamp (show a < 2 ^ 31 by omega), nI_clamp (show b < 2 ^ 31 by omega)]
      by_cases b0 : b = 0
      · rw [if_pos b0, if_pos (by rw [b0]; decide)]
        obtain ⟨iv', lv', g1, g2, g3, g4, g5⟩ := m_leastS_loop X (d + 32) im lw tl (l := lawOf A.1) (f := A.1.1) hk (t := a) (by omega) (nI b) p1 hk.np.1 (nP A.1.1) 0 (nI 0) true none ivz lv (by omega) h20 lg he
        exact fin g2 g3 g4 g5 g1
      · rw [if_neg b0, if_neg (nI_nle (by omega) (by omega)), show nI b - nI 1 = nI (b - 1) by rw [pk_sub (by omega)]]
        obtain ⟨iv', lv', g1, g2, g3, g4, g5⟩ := m_leastFor X (d + 32) im lw tl ivz lv h20 (l := lawOf A.1) lg hk he (t := a) (p := b - 1) (by omega) (by omega)
        exact fin g2 g3 g4 g5 (by rw [g1, bI_some, sg285_43])
    · rw [if_neg hw, if_neg hw]
      exact fin he rowS.rf frG.rf agN.rf rfl
  · rw [if_neg ht, if_neg ht]
    exact fin he rowS.rf frG.rf agN.rf rfl
theorem S_least (t w : Int32) : stepOK 151 285 [.inl t, .inl w] := step_of (C_least t w) (M_least t w) (fun _ h => h)
