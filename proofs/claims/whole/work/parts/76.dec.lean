/-! calls: decades -/
def dr (k : Nat) : Nat := (k * 1103 + 12345) % 1000003
theorem dr_lt (k : Nat) : dr k < 1000003 := Nat.mod_lt _ (by decide)
/-- a day drawn: scene behind the act, bitten or not -/
def decA (l : Lw) (f : Sc) (h t p : Nat) : Sc × Nat := if h = 0 then (if mayV f l t p = true then (reactF f (nP f) (reaV f l.1 l.2 t p) t p, if reaV f l.1 l.2 t p = 0 then 1 else 0) else (f, 0)) else if h = 1 then (feedF f t p, 0) else (f, 0)
def decS (l : Lw) (s : Nat × Sc × Nat) : Nat × Sc × Nat := (dr (dr (dr s.1)), dayF l.1 l.2 (nP s.2.1) (nT s.2.1) (decA l s.2.1 (dr (dr (dr s.1)) % 3) (dr s.1 % nT s.2.1) (dr (dr s.1) % nP s.2.1)).1, s.2.2 + (decA l s.2.1 (dr (dr (dr s.1)) % 3) (dr s.1 % nT s.2.1) (dr (dr s.1) % nP s.2.1)).2)
def decF (l : Lw) : Nat → Nat × Sc × Nat → Nat × Sc × Nat
  | 0, s => s
  | m + 1, s => if s.2.1 2 < nI 999 then decF l m (decS l s) else s
theorem gd_decA {f : Sc} (h : okF f) (l : Lw) (w : Nat) {t p : Nat} (ht : t < nT f) (hp : p < nP f) : gd f (decA l f w t p).1 := by
  have n1 := h.1.np.2
  have n2 := h.1.nt.2
  unfold decA
  split
  · split
    · exact gd_react h _ n1 (by omega) (by omega)
    · exact gd.rf h
  · split
    · exact gd_feed h ht hp
    · exact gd.rf h
theorem gd_decS {s : Nat × Sc × Nat} (h : okF s.2.1) (l : Lw) (h1 : 0 < nT s.2.1) (h2 : 0 < nP s.2.1) : gd s.2.1 (decS l s).2.1 := by
  have g := gd_decA h l (dr (dr (dr s.1)) % 3) (Nat.mod_lt (dr s.1) h1) (Nat.mod_lt (dr (dr s.1)) h2)
  exact g.tr (gd_day l.1 l.2 h.1.np.2 h.1.nt.2 g.1)
theorem decS_f (l : Lw) (s : Nat × Sc × Nat) : (decS l s).2.1 = dayF l.1 l.2 (nP s.2.1) (nT s.2.1) (decA l s.2.1 (dr (dr (dr s.1)) % 3) (dr s.1 % nT s.2.1) (dr (dr s.1) % nP s.2.1)).1 := rfl
theorem gd_decF (l : Lw) : ∀ (m : Nat) {s : Nat × Sc × Nat}, okF s.2.1 → 0 < nT s.2.1 → 0 < nP s.2.1 → gd s.2.1 (decF l m s).2.1 := by
  intro m
  induction m with
  | zero => intro s h _ _; exact gd.rf h
  | succ m ih =>
    intro s h h1 h2
    simp only [decF]
    split
    · have g := gd_decS h l h1 h2
      exact g.tr (ih g.1 (by rw [st_nT g.2]; exact h1) (by rw [st_nP g.2]; exact h2))
    · exact gd.rf h
def stR (A : St) (D : Sc) : St := (A.1, A.2.1, A.2.2.1, A.2.2.2.1, D, A.2.2.2.2.2)
def nOK (n : Int32) : Bool := decide (¬ n < nI 1 ∧ n ≤ nI 60)
theorem nOK_of {k : Int32} (h : nOK k = true) : ∃ m, 1 ≤ m ∧ m ≤ 60 ∧ k = nI m := by
  have h := of_decide_eq_true h
  obtain ⟨j, hj, e⟩ := nI_of (x := k) (fun q => h.1 (by rw [fb_lt] at q ⊢; rw [nI_toInt (by decide)]; rw [show (0 : Int32).toInt = 0 by decide] at q; omega))
  rw [e] at h
  exact ⟨j, by rcases Nat.lt_or_ge j 1 with q | q; exact absurd (nI_lt q (by omega)) h.1; exact q, by rcases Nat.lt_or_ge 60 j with q | q; exact absurd h.2 (nI_ge q hj); exact q, e⟩
theorem nOK_in (k : Int32) : decide (lN 1 ≤ k.toInt64 ∧ k.toInt64 ≤ lN 60) = nOK k := by
  unfold nOK
  refine decide_eq_decide.mpr ?_
  rw [fb_le64, fb_le64, fb_lt, fb_le, Int32.toInt_toInt64, lN_toInt (by decide), lN_toInt (by decide), nI_toInt (by decide), nI_toInt (by decide)]
  omega
def sp_decades (s n : Int32) (A : St) : Int32 × St := if (inV s (nI 1000000) && nOK n) = true then (if nT A.1.1 = 0 ∨ nP A.1.1 = 0 then rfs 2 A else (nI (decF (lawOf A.1) n.toNatClampNeg (s.toNatClampNeg, A.1.1, 0)).2.2, stS (stR A (decF (lawOf A.1) n.toNatClampNeg (s.toNatClampNeg, A.1.1, 0)).2.1) (nI 0))) else rfs 0 A
theorem c_drawn (X : XE) (d : Nat) (im lw : List (Option Nat)) (tl : List XC) (iv : Nat → Nat → Int32) (lv : Nat → Nat → Int64) {k : Nat} (hk : k < 1000003) : call X xT (d + 1) 185 [.inl (nI k)] (SS im lw tl, iv, lv) = some (some (.inl (nI (dr k))), (SS im lw tl, iv, lv)) := by
  rw [tr185, nI_l (by omega), lN_mul, lN_add, pk_lRem (by omega) (by omega) (by omega), lN_i]
  rfl
theorem relC_dw {A : St} {im lw : List (Option Nat)} {tl : List XC} {iv iv' : Nat → Nat → Int32} (h : RelC A im lw tl iv) {D : Sc} (hg : eqS (iv' 41) D) (e : fr [41, 20, 18] iv iv') : RelC (stR A D) im lw tl iv' := by
  obtain ⟨h0, h1, h2, h3, h4, h5, h6⟩ := h
  have e : ∀ a, a ≠ 41 → a ≠ 20 → a ≠ 18 → iv' a = iv a := fun a h1 h2 h3 => e a (by simp [h1, h2, h3])
  refine ⟨h0, ?_, h2.fr (fun a ha => e a (by omega) (by omega) (by omega)), ?_, ?_, hg, ?_⟩
  · exact h1.fr (e _ (by decide) (by decide) (by decide)) (e _ (by decide) (by decide) (by decide)) (e _ (by decide) (by decide) (by decide)) (e _ (by decide) (by decide) (by decide)) (e _ (by decide) (by decide) (by decide)) (fun x hx => e x (by have := hx.1; omega) (by have := hx.1; omega) (by have := hx.1; omega))
  · rw [e 9 (by decide) (by decide) (by decide), e 10 (by decide) (by decide) (by decide)]; exact h3
  · exact h4.fr (e _ (by decide) (by decide) (by decide)) (e _ (by decide) (by decide) (by decide)) (e _ (by decide) (by decide) (by decide))
  · unfold miscC; rw [e 11 (by decide) (by decide) (by decide), e 0 (by decide) (by decide) (by decide), e 45 (by decide) (by decide) (by decide)]; exact h6
theorem OKA.dw {A : St} (h : OKA A) {D : Sc} (hD : okS D) : OKA (stR A D) := ⟨h.1, h.2.1, h.2.2.1, h.2.2.2.1, hD⟩
/-- bitesOnPaper, on the drawn scene -/
theorem c_bite (X : XE) (d : Nat) {im lw : List (Option Nat)} {tl : List XC} {iv : Nat → Nat → Int32} (lv : Nat → Nat → Int64) {A : St} (h : RelC A im lw tl iv) (ho : OKA A) {f : Sc} (hf : okF f) (he : eqS (iv 41) f) {t p : Nat} (ht : t < nT f) (hp : p < nP f) : ∃ iv' lv', call X xT (d + 6) 186 [.inr (.inr (some 0)), .inr (.inr (some 40)), .inl (nI t), .inl (nI p)] (SS im lw tl, iv, lv) = some (some (.inl (nI (decA (lawOf A.1) f 0 t p).2)), (SS im lw tl, iv', lv')) ∧ eqS (iv' 41) (decA (lawOf A.1) f 0 t p).1 ∧ fr [41, 20, 18] iv iv' ∧ agL lv lv' := by
  have n1 := hf.1.np.2
  have n2 := hf.1.nt.2
  obtain ⟨iv1, lv1, g1, g2, g3⟩ := c_may X d lv h ho (sc40 im lw tl) (by decide) (t := t) (p := p) (by omega) (by omega)
  rw [mayV_eq he _ (by omega) (by omega)] at g1
  rw [tr186, g1, bI_some, sg186_7, b2i_ite]
  unfold decA
  rw [if_pos rfl]
  by_cases c : mayV f (lawOf A.1) t p = true
  · rw [if_pos c, if_pos c]
    obtain ⟨r, r1, r2⟩ := c_force (X := X) (d := d + 3) (lv := lv1) (h.ag g2) ho
    have e1 : iv1 41 = iv 41 := g2 41 (by decide) (by decide)
    obtain ⟨iv2, lv2, m1, m2, m3⟩ := c_react X d im lw tl iv1 lv1 (sc40 im lw tl) (by decide) (r2 iv1 (fun _ _ => rfl)).S (t := t) (p := p) (by omega) (by omega)
    rw [e1, reaV_eq he _ _ (by omega) (by omega)] at m1
    have e2 : iv2 41 = iv 41 := by rw [m2 41 (by decide) (by decide), e1]
    rw [r1, bR_some, sg186_24, m1, bI_some, sg186_29, objR_ok (sc40 im lw tl).1 rfl, c_reactF (sc40 im lw tl) n1 (by omega) (by omega) (by rw [e2, he 0 (by omega)]; exact hf.1.np.1), bV_some, sg186_39]
    refine ⟨upr iv2 41 (reactF (iv2 41) (nP f) (reaV f (lawOf A.1).1 (lawOf A.1).2 t p) t p), lv2, ?_, ?_, ?_, g3.tr m3⟩
    · split <;> rfl
    · rw [upr_self, e2]; exact reactF_eq he _ n1 (by omega) (by omega)
    · exact ((g2.tr m2).fr (by simp) (by simp)).tr (fr_upr _ _ (by simp))
  · rw [if_neg c, if_neg c]
    exact ⟨iv1, lv1, rfl, by rw [g2 41 (by decide) (by decide)]; exact he, g2.fr (by simp) (by simp), g3⟩
theorem i3 (k : Nat) : (nI (k % 3) = 0 ↔ k % 3 = 0) ∧ (nI (k % 3) = nI 1 ↔ k % 3 = 1) := by
  have : k % 3 < 3 := Nat.mod_lt _ (by decide)
  exact ⟨⟨fun e => (nI_eq (b := 0) (by omega) (by omega)).mp (e.trans nI_0.symm), fun e => by rw [e]; exact nI_0⟩, nI_eq (by omega) (by omega)⟩
theorem c_dec_day (X : XE) (d : Nat) {im lw : List (Option Nat)} {tl : List XC} {A : St} (ho : OKA A) {F : Sc} (hF : okF F) {np nt : Nat} (h0 : F 0 = nI np) (h1 : F 1 = nI nt) (n1 : np ≤ 6) (n2 : nt ≤ 4) {iv : Nat → Nat → Int32} (lv : Nat → Nat → Int64) (h : RelC (stR A F) im lw tl iv) (v1 v2 v3 v4 v6 v7 v8 v9 v10 : Int32) : ∃ iv' lv', run X (call X xT (d + 6)) false 1 xc184 188 [some (.inr (.inr (some 0))), some (.inl v1), some (.inl v2), some (.inl v3), some (.inl v4), some (.inr (.inr (some 40))), some (.inl v6), some (.inl v7), some (.inl v8), some (.inl v9), some (.inl v10)] [] (SS im lw tl, iv, lv) = run X (call X xT (d + 6)) false 1 xc184 93 [some (.inr (.inr (some 0))), some (.inl v1), some (.inl v2), some (.inl v3), some (.inl v4), some (.inr (.inr (some 40))), some (.inl v6), some (.inl v7), some (.inl (v8 + nI 1)), some (.inl v9), some (.inl v10)] [] (SS im lw tl, iv', lv') ∧ RelC (stR A (dayF (lawOf A.1).1 (lawOf A.1).2 np nt F)) im lw tl iv' ∧ midI iv iv' ∧ agL lv lv' := by
  have e1 : eqS (iv 41) F := h.2.2.2.2.2.1
  obtain ⟨r, r1, r2⟩ := c_force (X := X) (d := d + 4) (lv := lv) h (ho.dw hF.1)
  obtain ⟨iv2, lv2, m1, m2, m3, m4⟩ := c_nextDay X (d + 1) im lw tl iv lv (sc40 im lw tl) (by decide) (by decide) n1 n2 ((e1 0 (by omega)).trans h0) ((e1 1 (by omega)).trans h1) (r2 iv (fun _ _ => rfl))
  have e2 : eqS (iv2 41) (dayF (lawOf A.1).1 (lawOf A.1).2 np nt F) := by
    rw [m2]
    exact dayF_eq e1 _ _ n1 n2
  rw [sg184_188, r1, bR_some, sg184_201, m1, bV_some, sg184_204]
  exact ⟨iv2, lv2, rfl, relC_dw h e2 m3, m3.mid (by intro x hx; simp at hx; omega), m4⟩
theorem c_dec_loop (X : XE) (d : Nat) {im lw : List (Option Nat)} {tl : List XC} {A : St} (ho : OKA A) (v1 : Int32) {n : Nat} (hn : n ≤ 60) : ∀ (m q : Nat) (s : Nat × Sc × Nat) (w9 w10 : Option XV) (iv : Nat → Nat → Int32) (lv : Nat → Nat → Int64), q + m = n → s.1 < 1000003 → okF s.2.1 → 0 < nT s.2.1 → 0 < nP s.2.1 → RelC A im lw tl iv ∨ RelC (stR A s.2.1) im lw tl iv → RelC (stR A s.2.1) im lw tl iv → ∃ iv' lv', run X (call X xT (d + 6)) false 1 xc184 93 [some (.inr (.inr (some 0))), some (.inl v1), some (.inl (nI n)), some (.inl (nI (nT s.2.1))), some (.inl (nI (nP s.2.1))), some (.inr (.inr (some 40))), some (.inl (nI s.2.2)), some (.inl (nI s.1)), some (.inl (nI q)), w9, w10] [] (SS im lw tl, iv, lv) = some (some (.inl (nI (decF (lawOf A.1) m s).2.2)), (SS im lw tl, iv', lv')) ∧ RelC (stS (stR A (decF (lawOf A.1) m s).2.1) (nI 0)) im lw tl iv' ∧ midI iv iv' ∧ agL lv lv' := by
  intro m
  induction m with
  | zero =>
    intro q s w9 w10 iv lv hq hs hf h1 h2 _ h
    rw [sg184_93, if_pos (nI_le (by omega) (by omega)), tr22, bI_some, sg184_216]
    exact ⟨_, lv, rfl, h.st _, mid_upd _ _ _ (by decide), agL.rf⟩
  | succ m ih =>
    intro q s w9 w10 iv lv hq hs hf h1 h2 _ h
    have n1 := hf.1.np.2
    have n2 := hf.1.nt.2
    have ho2 : OKA (stR A s.2.1) := ho.dw hf.1
    have he : eqS (iv 41) s.2.1 := h.2.2.2.2.2.1
    rw [sg184_93, if_neg (nI_ge (show q < n by omega) (by omega)), c_day0 (sc40 im lw tl), bI_some, sg184_104, he 2 (by omega)]
    simp only [decF]
    by_cases c : s.2.1 2 < nI 999
    · rw [if_pos c, if_neg (fun e => by rw [fb_le] at e; rw [fb_lt] at c; omega), c_drawn X (d + 5) im lw tl iv lv hs, bI_some, sg184_115, if_neg (nI_ne0 h1 (by omega)), c_drawn X (d + 5) im lw tl iv lv (dr_lt _), bI_some, sg184_128, if_neg (nI_ne0 h2 (by omega)), c_drawn X (d + 5) im lw tl iv lv (dr_lt _), bI_some, sg184_142]
      have dl1 := dr_lt s.1
      have dl2 := dr_lt (dr s.1)
      have dl3 := dr_lt (dr (dr s.1))
      rw [pk_rem (by omega) h1 (by omega), pk_rem (by omega) h2 (by omega), pk_rem (by omega) (by omega) (by omega)]
      have ht : dr s.1 % nT s.2.1 < nT s.2.1 := Nat.mod_lt _ h1
      have hp : dr (dr s.1) % nP s.2.1 < nP s.2.1 := Nat.mod_lt _ h2
      obtain ⟨j1, j2⟩ := i3 (dr (dr (dr s.1)))
      have next : ∀ (iv1 : Nat → Nat → Int32) (lv1 : Nat → Nat → Int64), eqS (iv1 41) (decA (lawOf A.1) s.2.1 (dr (dr (dr s.1)) % 3) (dr s.1 % nT s.2.1) (dr (dr s.1) % nP s.2.1)).1 → fr [41, 20, 18] iv iv1 → agL lv lv1 → ∃ iv' lv', run X (call X xT (d + 6)) false 1 xc184 188 [some (.inr (.inr (some 0))), some (.inl v1), some (.inl (nI n)), some (.inl (nI (nT s.2.1))), some (.inl (nI (nP s.2.1))), some (.inr (.inr (some 40))), some (.inl (nI (s.2.2 + (decA (lawOf A.1) s.2.1 (dr (dr (dr s.1)) % 3) (dr s.1 % nT s.2.1) (dr (dr s.1) % nP s.2.1)).2))), some (.inl (nI (dr (dr (dr s.1))))), some (.inl (nI q)), some (.inl (nI (dr s.1 % nT s.2.1))), some (.inl (nI (dr (dr s.1) % nP s.2.1)))] [] (SS im lw tl, iv1, lv1) = some (some (.inl (nI (decF (lawOf A.1) m (decS (lawOf A.1) s)).2.2)), (SS im lw tl, iv', lv')) ∧ RelC (stS (stR A (decF (lawOf A.1) m (decS (lawOf A.1) s)).2.1) (nI 0)) im lw tl iv' ∧ midI iv iv' ∧ agL lv lv' := by
        intro iv1 lv1 e1 f1 a1
        have g := gd_decA hf (lawOf A.1) (dr (dr (dr s.1)) % 3) ht hp
        have gS := gd_decS hf (lawOf A.1) h1 h2
        have ef := decS_f (lawOf A.1) s
        have ek : (decS (lawOf A.1) s).1 = dr (dr (dr s.1)) := rfl
        have eb : (decS (lawOf A.1) s).2.2 = s.2.2 + (decA (lawOf A.1) s.2.1 (dr (dr (dr s.1)) % 3) (dr s.1 % nT s.2.1) (dr (dr s.1) % nP s.2.1)).2 := rfl
        generalize hS : decS (lawOf A.1) s = S at gS ef ek eb ⊢
        generalize hdA : decA (lawOf A.1) s.2.1 (dr (dr (dr s.1)) % 3) (dr s.1 % nT s.2.1) (dr (dr s.1) % nP s.2.1) = dA at e1 g ef eb ⊢
        generalize dr s.1 % nT s.2.1 = tt at *
        generalize dr (dr s.1) % nP s.2.1 = pp at *
        generalize dr (dr (dr s.1)) = kk at *
        obtain ⟨F, bb⟩ := dA
        obtain ⟨sk, sf, sb⟩ := S
        have ek : sk = kk := ek
        have eb : sb = s.2.2 + bb := eb
        have ef : sf = _ := ef
        subst ek
        subst eb
        have hr1 : RelC (stR A F) im lw tl iv1 := relC_dw h e1 f1
        obtain ⟨iv2, lv2, m1, m2, m3, m4⟩ := c_dec_day X d ho g.1 (g.2.1.trans hf.1.np.1) (g.2.2.1.trans hf.1.nt.1) n1 n2 lv1 hr1 v1 (nI n) (nI (nT s.2.1)) (nI (nP s.2.1)) (nI (s.2.2 + bb)) (nI sk) (nI q) (nI tt) (nI pp)
        rw [← ef] at m2
        have k := ih (q + 1) (sk, sf, s.2.2 + bb) (some (.inl (nI tt))) (some (.inl (nI pp))) iv2 lv2 (by omega) dl3 gS.1 (by rw [st_nT gS.2]; exact h1) (by rw [st_nP gS.2]; exact h2) (Or.inr m2) m2
        have q1 : nT (sk, sf, s.2.2 + bb).2.1 = nT s.2.1 := st_nT gS.2
        have q2 : nP (sk, sf, s.2.2 + bb).2.1 = nP s.2.1 := st_nP gS.2
        rw [q1, q2] at k
        obtain ⟨iv3, lv3, k1, k2, k3, k4⟩ := k
        rw [m1, nI_add]
        exact ⟨iv3, lv3, k1, k2, (f1.mid (by intro x hx; simp at hx; omega)).tr (m3.tr k3), (a1.tr m4).tr k4⟩
      by_cases c0 : dr (dr (dr s.1)) % 3 = 0
      · rw [if_pos (j1.mpr c0)]
        obtain ⟨iv1, lv1, b1, b2, b3, b4⟩ := c_bite X d lv h ho2 hf he ht hp
        have e0 : decA (lawOf A.1) s.2.1 (dr (dr (dr s.1)) % 3) (dr s.1 % nT s.2.1) (dr (dr s.1) % nP s.2.1) = decA (lawOf (stR A s.2.1).1) s.2.1 0 (dr s.1 % nT s.2.1) (dr (dr s.1) % nP s.2.1) := by rw [c0]; rfl
        rw [b1, bI_some, sg184_161, pk_rem (by omega) (by omega) (by omega)]
        have nx := next iv1 lv1 (by rw [e0]; exact b2) b3 b4
        rw [e0] at nx
        have n1' : ¬ nI (dr (dr (dr s.1)) % 3) = nI 1 := fun e => by have := j2.mp e; omega
        rw [if_neg n1', if_neg n1']
        have two : (decA (lawOf (stR A s.2.1).1) s.2.1 0 (dr s.1 % nT s.2.1) (dr (dr s.1) % nP s.2.1)).2 = 0 ∨ (decA (lawOf (stR A s.2.1).1) s.2.1 0 (dr s.1 % nT s.2.1) (dr (dr s.1) % nP s.2.1)).2 = 1 := by
          unfold decA
          rw [if_pos rfl]
          split
          · show (if _ then 1 else 0) = 0 ∨ (if _ then 1 else 0) = 1
            split
            · exact Or.inr rfl
            · exact Or.inl rfl
          · exact Or.inl rfl
        rcases two with e | e
        · rw [e] at nx ⊢
          rw [if_pos nI0_eq0]
          exact nx
        · rw [e] at nx ⊢
          rw [if_neg nI1_ne0, nI_add]
          exact nx
      · rw [if_neg (fun e => c0 (j1.mp e))]
        by_cases c1 : dr (dr (dr s.1)) % 3 = 1
        · rw [if_pos (j2.mpr c1), c_feeding X (d + 2) im lw tl iv lv (sc40 im lw tl) (by omega) (by omega), bV_some]
          have e0 : decA (lawOf A.1) s.2.1 (dr (dr (dr s.1)) % 3) (dr s.1 % nT s.2.1) (dr (dr s.1) % nP s.2.1) = (feedF s.2.1 (dr s.1 % nT s.2.1) (dr (dr s.1) % nP s.2.1), 0) := by unfold decA; rw [if_neg c0, if_pos c1]
          have nx := next (upr iv 41 (feedF (iv 41) (dr s.1 % nT s.2.1) (dr (dr s.1) % nP s.2.1))) lv (by rw [e0, upr_self]; exact feedF_eq he (by omega) (by omega)) (fr_upr _ _ (by simp)) agL.rf
          rw [e0] at nx
          exact nx
        · rw [if_neg (fun e => c1 (j2.mp e))]
          have e0 : decA (lawOf A.1) s.2.1 (dr (dr (dr s.1)) % 3) (dr s.1 % nT s.2.1) (dr (dr s.1) % nP s.2.1) = (s.2.1, 0) := by unfold decA; rw [if_neg c0, if_neg c1]
          have nx := next iv lv (by rw [e0]; exact he) fr.rf agL.rf
          rw [e0] at nx
          exact nx
    · rw [if_neg c, if_pos (by rw [fb_le]; rw [fb_lt] at c; omega), tr22, bI_some, sg184_216]
      exact ⟨_, lv, rfl, h.st _, mid_upd _ _ _ (by decide), agL.rf⟩
theorem C_decades (s n : Int32) : CSpec 184 [.inl s, .inl n] (sp_decades s n) := by
  intro X hX d im lw tl iv lv A h ho
  show CR' im lw tl iv lv _ _
  obtain ⟨p0, p1, t0, t1, hk⟩ := cfacts h ho
  unfold sp_decades
  rw [tr184, c_within X (d + 38), bI_some, sg184_7, b2i_ite]
  cases hs : inV s (nI 1000000)
  · rw [if_neg (by decide), Bool.false_and, if_neg (by decide)]
    exact crf h (i := 0) (by decide) (by rw [c_rf0 hX, bI_some, sg184_26])
  rw [if_pos rfl, Bool.true_and]
  by_cases hn : nOK n = true
  · rw [if_pos hn]
    have hn2 := of_decide_eq_true hn
    rw [if_neg hn2.1, if_pos hn2.2, c_tam0 (sc2 im lw tl), bI_some, sg184_37, c_prov0 (sc2 im lw tl), bI_some, sg184_48, t0, p0]
    by_cases c : nT A.1.1 = 0
    · rw [if_pos (Or.inl c), if_pos (by rw [c]; exact nI0_eq0)]
      exact crf h (i := 2) (by decide) (by rw [c_rf2 hX, bI_some, sg184_65])
    rw [if_neg (nI_ne0 (by omega) (by omega))]
    by_cases c2 : nP A.1.1 = 0
    · rw [if_pos (Or.inr c2), if_pos (by rw [c2]; exact nI0_eq0)]
      exact crf h (i := 2) (by decide) (by rw [c_rf2 hX, bI_some, sg184_65])
    rw [if_neg (show ¬ (nT A.1.1 = 0 ∨ nP A.1.1 = 0) from fun q => q.elim c c2), if_neg (nI_ne0 (by omega) (by omega))]
    obtain ⟨a, a1, rfl⟩ := inV_of (by decide) hs
    obtain ⟨b, b0, b1, rfl⟩ := nOK_of hn
    rw [nI_clamp (by omega), nI_clamp (by omega), tr109c40_2, xcopy_ok iv lv (nb := 59) (na := 59) rfl rfl (by omega) (by omega) (by omega) (by omega), sg109_15c40_2, bV_some, sg184_84]
    have hr : RelC (stR A A.1.1) im lw tl (upr iv 41 (va_cpy (iv 3) (iv 41) 0 0 59)) := relC_dw h (by rw [upr_self]; exact (cpy_eq _ _).tr h.eq) (fr_upr _ _ (by simp))
    obtain ⟨iv2, lv2, k1, k2, k3, k4⟩ := c_dec_loop X (d + 33) ho (nI a) b1 b 0 (a, A.1.1, 0) none none _ lv (by omega) (by show a < 1000003; omega) ho.1.1 (by show 0 < nT A.1.1; omega) (by show 0 < nP A.1.1; omega) (Or.inr hr) hr
    exact ⟨iv2, lv2, k1, k2, (mid_upr _ _ (by decide)).tr k3, k4.mid⟩
  · rw [if_neg hn]
    refine crf h (i := 0) (by decide) ?_
    by_cases q : n < nI 1
    · rw [if_pos q, c_rf0 hX, bI_some, sg184_26]
    · rw [if_neg q, if_neg (fun q2 => hn (decide_eq_true ⟨q, q2⟩)), c_rf0 hX, bI_some, sg184_26]
