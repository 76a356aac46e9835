/-! calls: calmest, compare, tempers -/
theorem angV_le {f : Sc} (h : okS f) (cl : Nat → CL) (n : Nat) {t p : Nat} (ht : t < 4) (hp : p < 6) : ∃ m, m ≤ 30 ∧ angV f cl n t p = nI m := by
  obtain ⟨m1, b1, e1⟩ := h.h hp
  obtain ⟨m2, b2, e2⟩ := h.t hp
  obtain ⟨m3, b3, e3⟩ := h.y ht hp
  unfold angV
  split
  · exact near_ok _ (by decide)
  · rw [e1, e2, e3, nI_add]
    by_cases c : m3 < m1 + m2
    · rw [pk_sub (by omega), if_pos (nI_lt (by omega) (by omega))]
      exact ⟨_, by omega, rfl⟩
    · rw [if_neg]
      · exact ⟨0, by omega, rfl⟩
      · rw [fb_lt, Int32.toInt_sub, nI_toInt (by omega), nI_toInt (by omega), nI_toInt (by omega), Int.bmod_def]
        omega
/-- the least of a row, the first of equals: m places from q on -/
def minS (x : Int32) (q : Nat) (c : Option (Nat × Int32)) : Option (Nat × Int32) := match c with
  | none => some (q, x)
  | some (b, v) => if x < v then some (q, x) else some (b, v)
def minR (g : Nat → Int32) : Nat → Nat → Option (Nat × Int32) → Option (Nat × Int32)
  | 0, _, c => c
  | m + 1, q, c => minR g m (q + 1) (minS (g q) q c)
theorem minR_eq {g g' : Nat → Int32} : ∀ (m q : Nat) (c : Option (Nat × Int32)), (∀ x, q ≤ x → x < q + m → g x = g' x) → minR g m q c = minR g' m q c := by
  intro m
  induction m with
  | zero => intro q c _; rfl
  | succ m ih => intro q c h; simp only [minR]; rw [h q (by omega) (by omega), ih _ _ (fun x h1 h2 => h x (by omega) (by omega))]
def minI (c : Option (Nat × Int32)) : Int32 := match c with
  | none => -1
  | some (b, _) => nI b
def minW (c : Option (Nat × Int32)) (x : Int32) : Int32 := match c with
  | none => x
  | some (_, v) => v
theorem minI_m1 {c : Option (Nat × Int32)} (h : ∀ b v, c = some (b, v) → b < 100) : (minI c = -1) ↔ c = none := by
  cases c with
  | none => simp [minI]
  | some x =>
    obtain ⟨b, v⟩ := x
    have := h b v rfl
    exact ⟨fun q => absurd q (nI_m1 (by omega)), fun q => by cases q⟩
def sp_calm (p : Int32) (A : St) : Int32 × St := (if hasV (nI (nP A.1.1)) p = true then minI (minR (fun t => angV A.1.1 (lawOf A.1).1 (lawOf A.1).2 t p.toNatClampNeg) (nT A.1.1) 0 none) else -1, A)
theorem c_calm_loop (X : XE) (d : Nat) {im lw : List (Option Nat)} {tl : List XC} {A : St} (ho : OKA A) {p : Nat} (hp : p < 6) : ∀ (m q : Nat) (c : Option (Nat × Int32)) (w5 : Option XV) (iv : Nat → Nat → Int32) (lv : Nat → Nat → Int64), q + m = nT A.1.1 → (∀ b v, c = some (b, v) → b < 100) → RelC A im lw tl iv → ∃ iv' lv', run X (call X xT (d + 4)) false 1 xc175 23 [some (.inr (.inr (some 0))), some (.inl (nI p)), some (.inl (minI c)), some (.inl (minW c (-1))), some (.inl (nI q)), w5] [] (SS im lw tl, iv, lv) = some (some (.inl (minI (minR (fun t => angV A.1.1 (lawOf A.1).1 (lawOf A.1).2 t p) m q c))), (SS im lw tl, iv', lv')) ∧ agC iv iv' ∧ agL lv lv' := by
  intro m
  induction m with
  | zero =>
    intro q c w5 iv lv hq hc h
    obtain ⟨p0, p1, t0, t1, hk⟩ := cfacts h ho
    rw [sg175_23, c_tam0 (sc2 im lw tl), bI_some, sg175_35, t0, if_pos (nI_le (by omega) (by omega))]
    exact ⟨iv, lv, rfl, agC.rf, agL.rf⟩
  | succ m ih =>
    intro q c w5 iv lv hq hc h
    obtain ⟨p0, p1, t0, t1, hk⟩ := cfacts h ho
    obtain ⟨r, r1, r2⟩ := c_force (X := X) (d := d + 2) (lv := lv) h ho
    obtain ⟨iv1, lv1, g1, g2, g3⟩ := c_anger X d im lw tl iv lv (sc2 im lw tl) (by decide) (r2 iv (fun _ _ => rfl)).S (t := q) (p := p) (by omega) hp
    rw [angV_eq h.eq _ _ (by omega) hp] at g1
    rw [sg175_23, c_tam0 (sc2 im lw tl), bI_some, sg175_35, t0, if_neg (nI_ge (show q < nT A.1.1 by omega) (by omega)), r1, bR_some, sg175_56, g1, bI_some, sg175_62, nI_add]
    have go : ∀ c2 : Option (Nat × Int32), c2 = minS (angV A.1.1 (lawOf A.1).1 (lawOf A.1).2 q p) q c → (∀ b v, c2 = some (b, v) → b < 100) → ∃ iv' lv', run X (call X xT (d + 4)) false 1 xc175 23 [some (.inr (.inr (some 0))), some (.inl (nI p)), some (.inl (minI c2)), some (.inl (minW c2 (-1))), some (.inl (nI (q + 1))), some (.inl (angV A.1.1 (lawOf A.1).1 (lawOf A.1).2 q p))] [] (SS im lw tl, iv1, lv1) = some (some (.inl (minI (minR (fun t => angV A.1.1 (lawOf A.1).1 (lawOf A.1).2 t p) (m + 1) q c))), (SS im lw tl, iv', lv')) ∧ agC iv iv' ∧ agL lv lv' := by
      intro c2 e2 h2
      obtain ⟨iv2, lv2, k1, k2, k3⟩ := ih (q + 1) c2 (some (.inl (angV A.1.1 (lawOf A.1).1 (lawOf A.1).2 q p))) iv1 lv1 (by omega) h2 (h.ag g2)
      refine ⟨iv2, lv2, ?_, g2.tr k2, g3.tr k3⟩
      rw [k1, minR, e2]
    cases c with
    | none =>
      rw [if_pos (show minI none = -1 from rfl)]
      exact go (some (q, angV A.1.1 (lawOf A.1).1 (lawOf A.1).2 q p)) rfl (fun b v e => by injection e with e; injection e with e1 e2; omega)
    | some x =>
      obtain ⟨b, v⟩ := x
      have hb := hc b v rfl
      rw [if_neg (show ¬ minI (some (b, v)) = -1 from nI_m1 (by omega))]
      by_cases cc : angV A.1.1 (lawOf A.1).1 (lawOf A.1).2 q p < v
      · rw [if_neg (show ¬ minW (some (b, v)) (-1) ≤ _ from fun e => by have e : v ≤ angV A.1.1 (lawOf A.1).1 (lawOf A.1).2 q p := e; rw [fb_le] at e; rw [fb_lt] at cc; omega)]
        exact go (some (q, angV A.1.1 (lawOf A.1).1 (lawOf A.1).2 q p)) (if_pos cc).symm (fun b v e => by injection e with e; injection e with e1 e2; omega)
      · rw [if_pos (show minW (some (b, v)) (-1) ≤ _ from (by show v ≤ _; rw [fb_le]; rw [fb_lt] at cc; omega))]
        exact go (some (b, v)) (if_neg cc).symm hc
theorem m_calm_loop (X : XE) (d : Nat) (im lw : List (Option Nat)) (tl : List XC) {l : Lw} {f : Sc} (hk : okS f) {p : Nat} (hp : p < 6) {n : Nat} (hn : n ≤ 4) (hn1 : f 1 = nI n) : ∀ (m q : Nat) (c : Option (Nat × Int32)) (w5 : Option XV) (iv : Nat → Nat → Int32) (lv : Nat → Nat → Int64), q + m = n → iv 46 20 = nI 0 → lawG (iv 48) l.1 l.2 → eqS f (fM (iv 48)) → ∃ iv' lv', run X (call X xT (d + 5)) false 1 xc301 24 [some (.inr (.inr (some 46))), some (.inl (nI p)), some (.inl (minW c (nI 100000000))), some (.inl (minI c)), some (.inl (nI q)), w5] [] (SS im lw tl, iv, lv) = some (some (.inl (minI (minR (fun t => angV f l.1 l.2 t p) m q c))), (SS im lw tl, iv', lv')) ∧ agM iv iv' ∧ agN lv lv' := by
  intro m
  induction m with
  | zero =>
    intro q c w5 iv lv hq h20 hl he
    have n1 : iv 48 1 = nI n := (he 1 (by omega)).symm.trans hn1
    rw [sg301_24, n1, if_pos (nI_le (by omega) (by omega))]
    exact ⟨iv, lv, rfl, agM.rf, agN.rf⟩
  | succ m ih =>
    intro q c w5 iv lv hq h20 hl he
    have n1 : iv 48 1 = nI n := (he 1 (by omega)).symm.trans hn1
    obtain ⟨iv1, lv1, g1, g2, g3⟩ := m_angers X d im lw tl iv lv h20 hl (hk.eq he) (t := q) (p := p) (by omega) hp
    rw [← angV_eq he _ _ (by omega) hp] at g1
    have r1 : iv1 48 = iv 48 := g2.row (by decide)
    rw [sg301_24, n1, if_neg (nI_ge (show q < n by omega) (by omega)), g1, bI_some, sg301_42, nI_add]
    have go : ∀ c2 : Option (Nat × Int32), c2 = minS (angV f l.1 l.2 q p) q c → ∃ iv' lv', run X (call X xT (d + 5)) false 1 xc301 24 [some (.inr (.inr (some 46))), some (.inl (nI p)), some (.inl (minW c2 (nI 100000000))), some (.inl (minI c2)), some (.inl (nI (q + 1))), some (.inl (angV f l.1 l.2 q p))] [] (SS im lw tl, iv1, lv1) = some (some (.inl (minI (minR (fun t => angV f l.1 l.2 t p) (m + 1) q c))), (SS im lw tl, iv', lv')) ∧ agM iv iv' ∧ agN lv lv' := by
      intro c2 e2
      obtain ⟨iv2, lv2, k1, k2, k3⟩ := ih (q + 1) c2 (some (.inl (angV f l.1 l.2 q p))) iv1 lv1 (by omega) (by rw [g2 46 20 (by omega)]; exact h20) (by rw [r1]; exact hl) (by rw [r1]; exact he)
      refine ⟨iv2, lv2, ?_, g2.tr k2, g3.tr k3⟩
      rw [k1, minR, e2]
    cases c with
    | none =>
      obtain ⟨a, a1, a2⟩ := angV_le hk l.1 l.2 (t := q) (p := p) (by omega) hp
      have nl : ¬ minW none (nI 100000000) ≤ angV f l.1 l.2 q p := by
        show ¬ nI 100000000 ≤ _
        rw [a2]
        exact nI_ge (by omega) (by omega)
      rw [if_neg nl, if_neg nl]
      exact go (some (q, angV f l.1 l.2 q p)) rfl
    | some x =>
      obtain ⟨b, v⟩ := x
      by_cases cc : angV f l.1 l.2 q p < v
      · have nl : ¬ minW (some (b, v)) (nI 100000000) ≤ angV f l.1 l.2 q p := fun e => by have e : v ≤ angV f l.1 l.2 q p := e; rw [fb_le] at e; rw [fb_lt] at cc; omega
        rw [if_neg nl, if_neg nl]
        exact go (some (q, angV f l.1 l.2 q p)) (if_pos cc).symm
      · have nl : minW (some (b, v)) (nI 100000000) ≤ angV f l.1 l.2 q p := by show v ≤ _; rw [fb_le]; rw [fb_lt] at cc; omega
        rw [if_pos nl, if_pos nl]
        exact go (some (b, v)) (if_neg cc).symm
theorem S_calmest (p : Int32) : stepOK 175 301 [.inl p] := by
  refine step_of (F := sp_calm p) ?_ ?_ (fun _ h => h)
  · intro X hX d im lw tl iv lv A h ho
    show CR' im lw tl iv lv _ _
    obtain ⟨p0, p1, t0, t1, hk⟩ := cfacts h ho
    unfold sp_calm
    rw [tr175, c_hasP (sc2 im lw tl), bI_some, sg175_11, b2i_ite, p0]
    by_cases hp : hasV (nI (nP A.1.1)) p = true
    · rw [if_pos hp, if_pos hp]
      obtain ⟨a, ha, rfl⟩ := hasV_of (by omega) hp
      rw [nI_clamp (show a < 2 ^ 31 by omega)]
      obtain ⟨iv', lv', g1, g2, g3⟩ := c_calm_loop X (d + 35) ho (p := a) (by omega) (nT A.1.1) 0 none none iv lv (by omega) (fun _ _ e => by cases e) h
      exact cq2 h g2 g3 g1
    · rw [if_neg hp, if_neg hp]
      exact cq h rfl
  · intro X d im lw tl iv lv A h ho
    show MR' im lw tl iv _ _
    have h0 := h.thr (nI 0)
    obtain ⟨p0, p1, t0, t1, hk, he, hk2, h20⟩ := mfacts h0 ho
    unfold sp_calm
    rw [tr301, m_isP X (d + 37) im lw tl _ lv p1 p0, bI_some, sg301_10, b2i_ite]
    by_cases hp : hasV (nI (nP A.1.1)) p = true
    · rw [if_pos hp, if_pos hp]
      obtain ⟨a, ha, rfl⟩ := hasV_of (by omega) hp
      rw [nI_clamp (show a < 2 ^ 31 by omega)]
      obtain ⟨iv', lv', g1, g2, g3⟩ := m_calm_loop X (d + 34) im lw tl (l := lawOf A.1) hk (p := a) (by omega) t1 hk.nt.1 (nT A.1.1) 0 none none _ lv (by omega) h20 (h0.lawG ho) he
      exact mq2 h g2 g3 g1
    · rw [if_neg hp, if_neg hp]
      exact mq h rfl
/-- compare -/
def withL (w : Wd) (l : Int32) : Wd := (w.1, w.2.1, w.2.2.1, w.2.2.2.1, l)
def cntL (f : Sc) (l : Lw) (t : Nat) : Nat → Nat → Int32 → Int32
  | 0, _, x => x
  | m + 1, q, x => cntL f l t m (q + 1) (if loyV f l.1 l.2 t q = true then x + nI 1 else x)
def sp_compare (l t : Int32) (A : St) : Int32 × St := (if (isLawV A l && hasV (nI (nT A.1.1)) t) = true then cntL A.1.1 (lawOf (withL A.1 l)) t.toNatClampNeg (nP A.1.1) 0 (nI 0) else -1, A)
theorem c_lawAt {X : XE} {d : Nat} {im lw : List (Option Nat)} {tl : List XC} {iv : Nat → Nat → Int32} {lv : Nat → Nat → Int64} {A : St} (h : RelC A im lw tl iv) (ho : OKA A) {l : Int32} (hl : isLawV A l = true) : ∃ r, call X xT (d + 1) 26 [.inr (.inr (some 1)), .inl l] (SS im lw tl, iv, lv) = some (some (.inr (.inr r)), (SS im lw tl, iv, lv)) ∧ ∀ iv', (∀ a, 79 ≤ a → iv' a = iv a) → lawT (SS im lw tl) iv' r (lawOf (withL A.1 l)).1 (lawOf (withL A.1 l)).2 := by
  obtain ⟨-, ⟨q1, q2, q3, q4, q5, q6, q7⟩, -⟩ := h
  obtain ⟨⟨-, -, -, b1, -⟩, -⟩ := ho
  rw [tr26, q5]
  by_cases e : l = -1
  · rw [e, if_pos (by decide)]
    refine ⟨none, rfl, fun iv' _ => ?_⟩
    unfold lawOf withL
    rw [if_pos rfl]
    exact fun _ _ => Or.inl ⟨rfl, rfl⟩
  · unfold isLawV at hl
    rw [decide_eq_false e, Bool.false_or] at hl
    obtain ⟨k, hk, rfl⟩ := hasV_of (by omega) hl
    obtain ⟨r, w1, w2, w3⟩ := q7 k hk
    rw [if_neg (nI_pos (by omega)), if_neg (nI_ge hk (by omega)), if_neg (nI_ge (show k < 6 by omega) (by omega)), if_pos (inb_nI (by omega) (by omega)), nI_clamp (by omega), w1, if_pos (by simp [lowR, w2])]
    refine ⟨some r, rfl, fun iv' h2 => ?_⟩
    unfold lawOf withL
    rw [if_neg e, nI_clamp (by omega)]
    exact fun iv2 h3 => w3 _ _ (fun a _ ha => ⟨rfl, (h3 a ha.1).trans (h2 a ha.1)⟩)
theorem c_cmp_loop (X : XE) (d : Nat) {im lw : List (Option Nat)} {tl : List XC} {A : St} (ho : OKA A) {l : Int32} (hl : isLawV A l = true) {t : Nat} (ht : t < 4) : ∀ (m q : Nat) (x : Int32) (iv : Nat → Nat → Int32) (lv : Nat → Nat → Int64), q + m = nP A.1.1 → RelC A im lw tl iv → ∃ iv' lv', run X (call X xT (d + 5)) false 1 xc183 37 [some (.inr (.inr (some 0))), some (.inl l), some (.inl (nI t)), some (.inl x), some (.inl (nI q))] [] (SS im lw tl, iv, lv) = some (some (.inl (cntL A.1.1 (lawOf (withL A.1 l)) t m q x)), (SS im lw tl, iv', lv')) ∧ agC iv iv' ∧ agL lv lv' := by
  intro m
  induction m with
  | zero =>
    intro q x iv lv hq h
    obtain ⟨p0, p1, t0, t1, hk⟩ := cfacts h ho
    rw [sg183_37, c_prov0 (sc2 im lw tl), bI_some, sg183_49, p0, if_pos (nI_le (by omega) (by omega))]
    exact ⟨iv, lv, rfl, agC.rf, agL.rf⟩
  | succ m ih =>
    intro q x iv lv hq h
    obtain ⟨p0, p1, t0, t1, hk⟩ := cfacts h ho
    obtain ⟨r, r1, r2⟩ := c_lawAt (X := X) (d := d + 4) (lv := lv) h ho hl
    obtain ⟨iv1, lv1, g1, g2, g3⟩ := c_loyal X d im lw tl iv lv (sc2 im lw tl) (by decide) (r2 iv (fun _ _ => rfl)).S (t := t) (p := q) ht (by omega)
    rw [loyV_eq h.eq _ _ ht (by omega)] at g1
    rw [sg183_37, c_prov0 (sc2 im lw tl), bI_some, sg183_49, p0, if_neg (nI_ge (show q < nP A.1.1 by omega) (by omega)), r1, bR_some, sg183_71, g1, bI_some, sg183_77, b2i_ite, nI_add]
    simp only [cntL]
    by_cases c : loyV A.1.1 (lawOf (withL A.1 l)).1 (lawOf (withL A.1 l)).2 t q = true
    · rw [if_pos c, if_pos c]
      obtain ⟨iv2, lv2, k1, k2, k3⟩ := ih (q + 1) (x + nI 1) iv1 lv1 (by omega) (h.ag g2)
      exact ⟨iv2, lv2, k1, g2.tr k2, g3.tr k3⟩
    · rw [if_neg c, if_neg c]
      obtain ⟨iv2, lv2, k1, k2, k3⟩ := ih (q + 1) x iv1 lv1 (by omega) (h.ag g2)
      exact ⟨iv2, lv2, k1, g2.tr k2, g3.tr k3⟩
/-- loyalTo -/
theorem m_loyalTo_loop (X : XE) (d : Nat) (im lw : List (Option Nat)) (tl : List XC) {l : Lw} {f : Sc} (hk : okS f) {t : Nat} (ht : t < 4) {n : Nat} (hn : n ≤ 6) (hn0 : f 0 = nI n) : ∀ (m q : Nat) (x : Int32) (iv : Nat → Nat → Int32) (lv : Nat → Nat → Int64), q + m = n → iv 46 20 = nI 0 → lawG (iv 48) l.1 l.2 → eqS f (fM (iv 48)) → ∃ iv' lv', run X (call X xT (d + 6)) false 1 xc305 4 [some (.inr (.inr (some 46))), some (.inl (nI t)), some (.inl x), some (.inl (nI q))] [] (SS im lw tl, iv, lv) = some (some (.inl (cntL f l t m q x)), (SS im lw tl, iv', lv')) ∧ agM iv iv' ∧ agN lv lv' := by
  intro m
  induction m with
  | zero =>
    intro q x iv lv hq h20 hl he
    have n0 : iv 48 0 = nI n := (he 0 (by omega)).symm.trans hn0
    rw [sg305_4, n0, if_pos (nI_le (by omega) (by omega))]
    exact ⟨iv, lv, rfl, agM.rf, agN.rf⟩
  | succ m ih =>
    intro q x iv lv hq h20 hl he
    have n0 : iv 48 0 = nI n := (he 0 (by omega)).symm.trans hn0
    obtain ⟨iv1, lv1, g1, g2, g3⟩ := m_loyal X d im lw tl iv lv h20 hl (hk.eq he) (t := t) (p := q) ht (by omega)
    rw [← loyV_eq he _ _ ht (by omega)] at g1
    have r1 : iv1 48 = iv 48 := g2.row (by decide)
    rw [sg305_4, n0, if_neg (nI_ge (show q < n by omega) (by omega)), g1, bI_some, sg305_21, b2i_ite, nI_add]
    simp only [cntL]
    have go : ∀ y, ∃ iv' lv', run X (call X xT (d + 6)) false 1 xc305 4 [some (.inr (.inr (some 46))), some (.inl (nI t)), some (.inl y), some (.inl (nI (q + 1)))] [] (SS im lw tl, iv1, lv1) = some (some (.inl (cntL f l t m (q + 1) y)), (SS im lw tl, iv', lv')) ∧ agM iv iv' ∧ agN lv lv' := by
      intro y
      obtain ⟨iv2, lv2, k1, k2, k3⟩ := ih (q + 1) y iv1 lv1 (by omega) (by rw [g2 46 20 (by omega)]; exact h20) (by rw [r1]; exact hl) (by rw [r1]; exact he)
      exact ⟨iv2, lv2, k1, g2.tr k2, g3.tr k3⟩
    by_cases c : loyV f l.1 l.2 t q = true
    · rw [if_pos c, if_pos c]
      exact go _
    · rw [if_neg c, if_neg c, nI_0, Int32.add_zero]
      exact go _
theorem m_loyalTo (X : XE) (d : Nat) (im lw : List (Option Nat)) (tl : List XC) (iv : Nat → Nat → Int32) (lv : Nat → Nat → Int64) {l : Lw} {f : Sc} (hk : okS f) {t : Nat} (ht : t < 4) (h20 : iv 46 20 = nI 0) (hl : lawG (iv 48) l.1 l.2) (he : eqS f (fM (iv 48))) : ∃ iv' lv', call X xT (d + 7) 305 [.inr (.inr (some 46)), .inl (nI t)] (SS im lw tl, iv, lv) = some (some (.inl (cntL f l t (nP f) 0 (nI 0))), (SS im lw tl, iv', lv')) ∧ agM iv iv' ∧ agN lv lv' := by
  rw [tr305]
  exact m_loyalTo_loop X d im lw tl hk ht hk.np.2 hk.np.1 (nP f) 0 (nI 0) iv lv (by omega) h20 hl he
theorem S_compare (l t : Int32) : stepOK 183 307 [.inl l, .inl t] := by
  refine step_of (F := sp_compare l t) ?_ ?_ (fun _ h => h)
  · intro X hX d im lw tl iv lv A h ho
    show CR' im lw tl iv lv _ _
    obtain ⟨p0, p1, t0, t1, hk⟩ := cfacts h ho
    unfold sp_compare
    rw [tr183, c_hasT (sc2 im lw tl), bI_some, sg183_11, b2i_ite, t0]
    by_cases ht : hasV (nI (nT A.1.1)) t = true
    · rw [if_pos ht, ht, Bool.and_true]
      obtain ⟨a, ha, rfl⟩ := hasV_of (by omega) ht
      rw [nI_clamp (show a < 2 ^ 31 by omega)]
      have go : isLawV A l = true → CR' im lw tl iv lv (run X (call X xT (d + 39)) false 1 xc183 37 [some (.inr (.inr (some 0))), some (.inl l), some (.inl (nI a)), some (.inl (nI 0)), some (.inl (nI 0))] [] (SS im lw tl, iv, lv)) (cntL A.1.1 (lawOf (withL A.1 l)) a (nP A.1.1) 0 (nI 0), A) := by
        intro hl
        obtain ⟨iv', lv', g1, g2, g3⟩ := c_cmp_loop X (d + 34) ho hl (t := a) (by omega) (nP A.1.1) 0 (nI 0) iv lv (by omega) h
        exact cq2 h g2 g3 g1
      by_cases hl : l = -1
      · have hl2 : isLawV A l = true := by unfold isLawV; rw [decide_eq_true hl]; rfl
        rw [if_pos hl, if_pos hl2]
        exact go hl2
      · rw [if_neg hl, tr134, h.2.1.2.2.2.2.1]
        by_cases hh : hasV (nI A.1.2.2.2.1.1) l = true
        · have hl2 : isLawV A l = true := by unfold isLawV; rw [hh, Bool.or_true]
          have hh2 := of_decide_eq_true hh
          rw [if_neg hh2.1, if_neg hh2.2, bI_some, sg183_27, if_neg nI1_ne0, if_pos hl2]
          exact go hl2
        · have hl2 : ¬ isLawV A l = true := by unfold isLawV; rw [decide_eq_false hl, Bool.false_or]; exact hh
          rw [if_neg hl2]
          refine cq h ?_
          by_cases l0 : l < 0
          · rw [if_pos l0, bI_some, sg183_27, if_pos nI0_eq0]
          · rw [if_neg l0, if_pos (Decidable.not_not.mp (fun q => hh (decide_eq_true ⟨l0, q⟩))), bI_some, sg183_27, if_pos nI0_eq0]
    · rw [if_neg ht, if_neg (by rw [Bool.and_eq_true]; exact fun q => ht q.2)]
      exact cq h rfl
  · intro X d im lw tl iv lv A h ho
    show MR' im lw tl iv _ _
    have h0 := h.thr (nI 0)
    obtain ⟨p0, p1, t0, t1, hk, he, hk2, h20⟩ := mfacts h0 ho
    obtain ⟨q1, q2, q3, q4, q5, q6, q7⟩ := h0.1
    unfold sp_compare
    rw [tr307]
    generalize hg : upd2 iv 46 0 (nI 0) = ivz at h0 p0 t0 he hk2 h20 q1 q2 q3 q4 q5 q6 q7
    have o0 : outI iv ivz := hg ▸ out0 iv
    have same : ∀ v, MR' im lw tl iv (some (some (.inl v), (SS im lw tl, ivz, lv))) (v, A) := fun v => ⟨ivz, lv, rfl, h0, o0⟩
    rw [m_isLaw X (d + 37) im lw tl _ lv ho.1.2.2.2.1 q5, bI_some, sg307_10, b2i_ite]
    unfold isLawV
    by_cases hl : (decide (l = -1) || hasV (nI A.1.2.2.2.1.1) l) = true
    · rw [if_pos hl, hl, Bool.true_and, m_isT X (d + 37) im lw tl _ lv t1 t0, bI_some, sg307_18, b2i_ite]
      by_cases ht : hasV (nI (nT A.1.1)) t = true
      · rw [if_pos ht, if_pos ht]
        obtain ⟨a, ha, rfl⟩ := hasV_of (by omega) ht
        rw [nI_clamp (show a < 2 ^ 31 by omega), q6]
        have r48 : (upd2 ivz 48 4 l) 48 = pu (ivz 48) 4 l := upd2_rw _ _ _ _
        have lg : lawG ((upd2 ivz 48 4 l) 48) (lawOf (withL A.1 l)).1 (lawOf (withL A.1 l)).2 := by
          rw [r48]
          unfold lawOf withL
          by_cases e : l = -1
          · rw [if_pos e]; exact Or.inl ⟨by rw [pu_s]; exact e, rfl⟩
          · rw [if_neg e]
            rw [decide_eq_false e, Bool.false_or] at hl
            obtain ⟨k, hk, rfl⟩ := hasV_of (by have := ho.1.2.2.2.1; omega) hl
            have b6 := ho.1.2.2.2.1
            rw [nI_clamp (by omega)]
            exact Or.inr ⟨k, by omega, pu_s _ _ _, (q7 k hk).row (by omega) (fun i hi => pu_n _ _ _ (by omega))⟩
        have he2 : eqS A.1.1 (fM ((upd2 ivz 48 4 l) 48)) := by rw [r48]; exact h0.1.pu _ (by omega)
        obtain ⟨iv', lv', g1, g2, g3⟩ := m_loyalTo X (d + 32) im lw tl (upd2 ivz 48 4 l) lv (l := lawOf (withL A.1 l)) hk (t := a) (by omega) (by rw [upd2_ne _ _ _ _ (by omega)]; exact h20) lg he2
        rw [g1, bI_some, sg307_42]
        have r1 : iv' 48 = pu (ivz 48) 4 l := by rw [g2.row (by decide), r48]
        have r2 : (upd2 iv' 48 4 A.1.2.2.2.2) 48 = ivz 48 := by
          rw [upd2_rw, r1, pu_pu]
          funext j
          simp only [pu]
          split
          · rename_i e; rw [e]; exact q6.symm
          · rfl
        refine ⟨_, lv', rfl, h0.fr (fun x k q => ?_) (h0.c.N g3), o0.tr ((out_upd _ _ _ (by decide) (by decide)).tr (g2.out.tr (out_upd _ _ _ (by decide) (by decide))))⟩
        by_cases c : x = 48
        · subst c; rw [r2]
        · rw [upd2_off _ _ _ _ c, g2 x k (by rcases q with q | ⟨q, r⟩ <;> simp at * <;> omega), upd2_off _ _ _ _ c]
      · rw [if_neg ht, if_neg ht]
        exact same _
    · rw [if_neg hl, if_neg (by rw [Bool.and_eq_true]; exact fun q => hl q.1)]
      exact same _
