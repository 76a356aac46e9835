/-! the reference: laws, what they tell -/
/-- the place of a scene's cell in the reference's row -/
def mx (j : Nat) : Nat := if j < 2 then j else if j < 23 then j + 3 else if j < 27 then j + 35 else j - 1
def fM (g : Nat → Int32) : Nat → Int32 := fun j => g (mx j)
def lwv (w : Nat → Int32) : Nat → Nat → Int64 := fun o _ => (w (o - 1)).toInt64
/-- a stretch of a code reckons f -/
def rng (cd : Nat → Nat × Nat) (sz : Nat) (x y : Int32) (f : (Nat → Int32) → Option Int64) : Prop := ∃ a z, x = nI a ∧ y = nI z ∧ a < z ∧ z ≤ sz ∧ ∀ w, ∃ m, evm cd (lwv w) z m a [] = some (f w)
/-- a law in the reference's row from b on -/
def lawM (g : Nat → Int32) (b : Nat) (cl : Nat → CL) (n : Nat) : Prop :=
  n ≤ 12 ∧ g (b + 1) = nI n ∧ ∃ (cd : Nat → Nat × Nat) (sz : Nat), sz ≤ 400 ∧ (∀ k, k < sz → g (b + 98 + 2 * k) = nI (cd k).1 ∧ g (b + 98 + 2 * k + 1) = nI (cd k).2 ∧ (cd k).1 ≤ 30 ∧ (cd k).2 < 1000000 ∧ ((cd k).1 < 20 → (cd k).1 ≤ 10)) ∧
  ∀ i, i < n → g (b + 2 + 8 * i) = nI (cl i).1 ∧ (cl i).1 < 4 ∧ ((g (b + 2 + 8 * i + 6) ≤ g (b + 2 + 8 * i + 5) ∧ ∀ w, (cl i).2.1 w = some (lN 1)) ∨ rng cd sz (g (b + 2 + 8 * i + 5)) (g (b + 2 + 8 * i + 6)) (cl i).2.1) ∧
    ((cl i).1 = 3 → ∀ w, (cl i).2.2 w = some (lN 1)) ∧ ((cl i).1 ≠ 3 → rng cd sz (g (b + 2 + 8 * i + 3)) (g (b + 2 + 8 * i + 4)) (cl i).2.2 ∧ ∀ w v, (cl i).2.2 w = some v → v.toInt32.toInt64 = v)
def agB (iv iv' : Nat → Nat → Int32) : Prop := ∀ a k, ¬ (a = 46 ∧ k = 38) → iv' a k = iv a k
def agO (lv lv' : Nat → Nat → Int64) : Prop := ∀ a k, a ≠ 66 → ¬ (a = 46 ∧ (k = 39 ∨ k = 40)) → lv' a k = lv a k
def agM (iv iv' : Nat → Nat → Int32) : Prop := ∀ a k, ¬ (a = 46 ∧ (k = 34 ∨ k = 38)) → iv' a k = iv a k
def agN (lv lv' : Nat → Nat → Int64) : Prop := ∀ a k, a ≠ 66 → a ≠ 64 → ¬ (a = 46 ∧ (k = 39 ∨ k = 40)) → lv' a k = lv a k
theorem agB.rf {iv : Nat → Nat → Int32} : agB iv iv := fun _ _ _ => rfl
theorem agO.rf {lv : Nat → Nat → Int64} : agO lv lv := fun _ _ _ _ => rfl
theorem agM.rf {iv : Nat → Nat → Int32} : agM iv iv := fun _ _ _ => rfl
theorem agN.rf {lv : Nat → Nat → Int64} : agN lv lv := fun _ _ _ _ _ => rfl
theorem agB.tr {a b c : Nat → Nat → Int32} (h : agB a b) (h2 : agB b c) : agB a c := fun x k h3 => (h2 x k h3).trans (h x k h3)
theorem agO.tr {a b c : Nat → Nat → Int64} (h : agO a b) (h2 : agO b c) : agO a c := fun x k h3 h4 => (h2 x k h3 h4).trans (h x k h3 h4)
theorem agM.tr {a b c : Nat → Nat → Int32} (h : agM a b) (h2 : agM b c) : agM a c := fun x k h3 => (h2 x k h3).trans (h x k h3)
theorem agN.tr {a b c : Nat → Nat → Int64} (h : agN a b) (h2 : agN b c) : agN a c := fun x k h3 h4 h5 => (h2 x k h3 h4 h5).trans (h x k h3 h4 h5)
theorem agB.M {a b : Nat → Nat → Int32} (h : agB a b) : agM a b := fun x k h3 => h x k (fun q => h3 ⟨q.1, Or.inr q.2⟩)
theorem agO.N {a b : Nat → Nat → Int64} (h : agO a b) : agN a b := fun x k h3 _ h5 => h x k h3 h5
theorem agB.row {iv iv' : Nat → Nat → Int32} (h : agB iv iv') : iv' 48 = iv 48 := by funext k; exact h 48 k (by omega)
theorem agM.row {iv iv' : Nat → Nat → Int32} (h : agM iv iv') {a : Nat} (ha : a ≠ 46) : iv' a = iv a := by funext k; exact h a k (by omega)
/-- reckonAll over a law's code -/
theorem m_reckL (X : XE) (d : Nat) (im lw : List (Option Nat)) (tl : List XC) (iv : Nat → Nat → Int32) (lv : Nat → Nat → Int64) {b : Nat} (hb : b ≤ 4610) (h34 : iv 46 34 = nI b) (h20 : iv 46 20 = nI 0) {cd : Nat → Nat × Nat} {sz : Nat} (hsz : sz ≤ 400) (hcd : ∀ k, k < sz → iv 48 (b + 98 + 2 * k) = nI (cd k).1 ∧ iv 48 (b + 98 + 2 * k + 1) = nI (cd k).2 ∧ (cd k).1 ≤ 30 ∧ (cd k).2 < 1000000 ∧ ((cd k).1 < 20 → (cd k).1 ≤ 10)) {w : Nat → Int32} (hw : ∀ j, j < 10 → lv 64 (j + 1) = (w j).toInt64) {a z : Nat} (hz : z ≤ sz) (ha : a ≤ 400) {res : Option Int64} {m : Nat} (hev : evm cd (lwv w) z m a [] = some res) :
    ∃ iv' lv', call X xT (d + 2) 213 [.inr (.inr (some 46)), .inl (nI a), .inl (nI z)] (SS im lw tl, iv, lv) = some (none, (SS im lw tl, iv', lv')) ∧ iv' 46 38 = b2i res.isNone ∧ (∀ v, res = some v → lv' 46 39 = v) ∧ agB iv iv' ∧ agO lv lv' := by
  have r0 : ∀ x : Int32, (upd2 iv 46 38 x) 48 = iv 48 := fun x => upd2_off _ _ _ _ (by decide)
  have r1 : (upd2 iv 46 38 (nI 0)) 46 34 = nI b := by rw [upd2_ne _ _ _ _ (by omega)]; exact h34
  have r2 : (upd2 iv 46 38 (nI 0)) 46 20 = nI 0 := by rw [upd2_ne _ _ _ _ (by omega)]; exact h20
  have r3 : (upd2 iv 46 38 (nI 0)) 46 38 = nI 0 := upd2_self _ _ _ _
  have ad : ∀ k, (nI b + nI 98) + (nI 2 * nI k) = nI (b + 98 + 2 * k) := fun k => by rw [nI_add, pk_mul, nI_add]
  have H2 : ∀ (k m : Nat) (f : Nat → Int64) (w5 w6 : Option XV), k < z → run X (call X xT (d + 1)) false 0 xc213 10 [some (.inr (.inr (some 46))), some (.inl (nI a)), some (.inl (nI z)), some (.inl (nI m)), some (.inl (nI k)), w5, w6] [] (SS im lw tl, upd2 iv 46 38 (nI 0), upr lv 66 f) = run X (call X xT (d + 1)) false 0 xc213 95 [some (.inr (.inr (some 46))), some (.inl (nI a)), some (.inl (nI z)), some (.inl (nI m)), some (.inl (nI k)), some (.inl (nI (cd k).1)), w6] [.inl (nI (cd k).2)] (SS im lw tl, upd2 iv 46 38 (nI 0), upr lv 66 f) := by
    intro k m f w5 w6 hk
    obtain ⟨q1, q2, q3, q4, q5⟩ := hcd k (by omega)
    rw [sg213_10, if_neg (nI_ge hk (by omega)), r3, if_pos nI0_eq0, r2, if_pos nI0_eq0, r1, ad, if_pos (inb_nI (by omega) (by omega)), nI_clamp (by omega), r0, q1, sg213_57, r2, if_pos nI0_eq0, r1, ad, nI_add, if_pos (inb_nI (by omega) (by omega)), nI_clamp (by omega), r0, q2]
  have H1 : ∀ (k m : Nat) (f : Nat → Int64) (w6 : Option XV), k < z → m < 400 → (cd k).1 < 20 → run X (call X xT (d + 1)) false 0 xc213 95 [some (.inr (.inr (some 46))), some (.inl (nI a)), some (.inl (nI z)), some (.inl (nI m)), some (.inl (nI k)), some (.inl (nI (cd k).1)), w6] [.inl (nI (cd k).2)] (SS im lw tl, upd2 iv 46 38 (nI 0), upr lv 66 f) = run X (call X xT (d + 1)) false 0 xc213 10 [some (.inr (.inr (some 46))), some (.inl (nI a)), some (.inl (nI z)), some (.inl (nI (m + 1))), some (.inl (nI (k + 1))), some (.inl (nI (cd k).1)), some (.inl (nI (cd k).2))] [] (SS im lw tl, upd2 iv 46 38 (nI 0), upr lv 66 (pu f m (if (cd k).1 = 0 then (nI (cd k).2).toInt64 else lwv w (cd k).1 (cd k).2))) := by
    intro k m f w6 hk hm ho
    obtain ⟨q1, q2, q3, q4, q5⟩ := hcd k (by omega)
    have q5 := q5 ho
    rw [sg213_95, if_neg (nI_ge ho (by omega)), r2, if_pos nI0_eq0, nI_add]
    by_cases e : (cd k).1 = 0
    · rw [if_pos (by rw [e]; exact nI0_eq0), sg213_222, if_pos (inb_nI hm (by omega)), sg213_368, if_pos e, nI_clamp (by omega), upd2_upr, nI_add]
    · rw [if_neg (nI_ne0 (by omega) (by omega)), if_pos (inb_nI (by omega) (by omega)), sg213_222, if_pos (inb_nI hm (by omega)), sg213_368, if_neg e, nI_clamp (by omega), nI_clamp (by omega), upd2_upr, nI_add, upr_off _ _ _ (show 64 ≠ 66 by decide)]
      have e2 := hw ((cd k).1 - 1) (by omega)
      rw [show (cd k).1 - 1 + 1 = (cd k).1 by omega] at e2
      rw [e2]
      rfl
  obtain ⟨f', x, g1, g2⟩ := m_reck_loop X d im lw tl (upd2 iv 46 38 (nI 0)) lv r3 (by omega) (fun k hk => ⟨(hcd k (by omega)).2.2.1, (hcd k (by omega)).2.2.2.1⟩) (nI a) H2 H1 m a [] (lv 66) none none res (by omega) (by simp) trivial hev
  rw [upr_id] at g1
  refine ⟨upd2 (upd2 iv 46 38 (nI 0)) 46 38 (b2i res.isNone), upd2 (upr lv 66 f') 46 39 x, ?_, ?_, ?_, ?_, ?_⟩
  · rw [tr213]; exact g1
  · rw [upd2_self]
  · intro v hv; rw [upd2_self]; exact g2 v hv
  · intro p k hp
    rw [upd2_ne _ _ _ _ hp, upd2_ne _ _ _ _ hp]
  · intro p k hp hq
    rw [upd2_ne _ _ _ _ (fun q => hq ⟨q.1, Or.inl q.2⟩), upr_off _ _ _ hp]
/-- isSo -/
theorem m_isSo (X : XE) (d : Nat) (im lw : List (Option Nat)) (tl : List XC) (iv : Nat → Nat → Int32) (lv : Nat → Nat → Int64) {b : Nat} (hb : b ≤ 4610) (h34 : iv 46 34 = nI b) (h20 : iv 46 20 = nI 0) {cl : Nat → CL} {n : Nat} (hl : lawM (iv 48) b cl n) {w : Nat → Int32} (hw : ∀ j, j < 10 → lv 64 (j + 1) = (w j).toInt64) {i : Nat} (hi : i < n) :
    ∃ iv' lv', call X xT (d + 3) 212 [.inr (.inr (some 46)), .inl (nI (b + 2 + 8 * i))] (SS im lw tl, iv, lv) = some (some (.inl (b2i (one1 (cl i) (cl i).1 w).isSome)), (SS im lw tl, iv', lv')) ∧ ((cl i).1 ≠ 3 → ∀ v, one1 (cl i) (cl i).1 w = some v → lv' 46 40 = v) ∧ agB iv iv' ∧ agO lv lv' := by
  obtain ⟨hn, -, cd, sz, hsz, hcd, hcl⟩ := hl
  obtain ⟨q1, q2, q3, q4, q5⟩ := hcl i hi
  have i5 : inb (nI (b + 2 + 8 * i + 5)) 5510 = true := inb_nI (by omega) (by omega)
  have i6 : inb (nI (b + 2 + 8 * i + 6)) 5510 = true := inb_nI (by omega) (by omega)
  have i3 : inb (nI (b + 2 + 8 * i + 3)) 5510 = true := inb_nI (by omega) (by omega)
  have i4 : inb (nI (b + 2 + 8 * i + 4)) 5510 = true := inb_nI (by omega) (by omega)
  have i0 : inb (nI (b + 2 + 8 * i)) 5510 = true := inb_nI (by omega) (by omega)
  have sums : ∀ (iv1 : Nat → Nat → Int32) (lv1 : Nat → Nat → Int64), agB iv iv1 → agO lv lv1 → one1 (cl i) (cl i).1 w = (cl i).2.2 w → ∃ iv' lv', run X (call X xT (d + 2)) false 4 xc212 59 [some (.inr (.inr (some 46))), some (.inl (nI (b + 2 + 8 * i)))] [] (SS im lw tl, iv1, lv1) = some (some (.inl (b2i (one1 (cl i) (cl i).1 w).isSome)), (SS im lw tl, iv', lv')) ∧ ((cl i).1 ≠ 3 → ∀ v, one1 (cl i) (cl i).1 w = some v → lv' 46 40 = v) ∧ agB iv iv' ∧ agO lv lv' := by
    intro iv1 lv1 a1 a2 ho
    have row := a1.row
    rw [sg212_59, if_pos i0, nI_clamp (by omega), row, q1, ho]
    by_cases h3 : (cl i).1 = 3
    · rw [if_pos (by rw [h3]), q4 h3 w]
      exact ⟨iv1, lv1, rfl, fun h => absurd h3 h, a1, a2⟩
    · obtain ⟨⟨a, z, x1, x2, x3, x4, x5⟩, fit⟩ := q5 h3
      obtain ⟨m, hm⟩ := x5 w
      obtain ⟨iv', lv', g1, g2, g3, g4, g5⟩ := m_reckL X d im lw tl iv1 lv1 hb (by rw [a1 46 34 (by omega)]; exact h34) (by rw [a1 46 20 (by omega)]; exact h20) hsz (by rw [row]; exact hcd) (fun j hj => by rw [a2 64 (j + 1) (by omega) (by omega)]; exact hw j hj) x4 (by omega) hm
      rw [if_neg (fun e => h3 ((nI_eq (by omega) (by omega)).mp e)), nI_add, nI_add, if_pos i3, if_pos i4, nI_clamp (by omega), nI_clamp (by omega), x1, x2, g1, bV_some, sg212_89, g2]
      cases hv : (cl i).2.2 w with
      | none =>
        rw [hv] at g3
        rw [if_neg (show ¬ b2i (none : Option Int64).isNone = 0 by decide), sg212_109, if_pos (by decide)]
        refine ⟨iv', _, rfl, fun _ v hv => (by cases hv), a1.tr g4, ?_⟩
        exact (a2.tr g5).tr (fun p k hp hq => upd2_ne _ _ _ _ (fun q => hq ⟨q.1, Or.inr q.2⟩))
      | some v =>
        rw [hv] at g3
        rw [if_pos (show b2i (some v).isNone = 0 from rfl), sg212_109, if_pos (by decide)]
        refine ⟨iv', _, rfl, fun _ u hu => ?_, a1.tr g4, ?_⟩
        · rw [upd2_self]; exact g3 u hu
        · exact (a2.tr g5).tr (fun p k hp hq => upd2_ne _ _ _ _ (fun q => hq ⟨q.1, Or.inr q.2⟩))
  rw [tr212, nI_add, nI_add, if_pos i5, if_pos i6, nI_clamp (by omega), nI_clamp (by omega), if_pos i5, if_pos i6]
  by_cases ht : iv 48 (b + 2 + 8 * i + 6) ≤ iv 48 (b + 2 + 8 * i + 5)
  · rw [if_pos ht]
    have e1 : ∀ w, (cl i).2.1 w = some (lN 1) := by
      rcases q3 with ⟨-, h⟩ | ⟨a, z, x1, x2, x3, x4, x5⟩
      · exact h
      · rw [x1, x2] at ht; exact absurd ht (nI_ge x3 (by omega))
    exact sums iv lv agB.rf agO.rf (by simp only [one1, if_true, e1 w]; rw [if_neg (by decide)])
  · rw [if_neg ht]
    rcases q3 with ⟨h, -⟩ | ⟨a, z, x1, x2, x3, x4, x5⟩
    · exact absurd h ht
    · obtain ⟨m, hm⟩ := x5 w
      obtain ⟨iv', lv', g1, g2, g3, g4, g5⟩ := m_reckL X d im lw tl iv lv hb h34 h20 hsz hcd hw x4 (by omega) hm
      rw [x1, x2, g1, bV_some, sg212_41, g2]
      cases hv : (cl i).2.1 w with
      | none =>
        rw [if_neg (show ¬ b2i (none : Option Int64).isNone = 0 by decide), sg212_57]
        have e1 : one1 (cl i) (cl i).1 w = none := by simp only [one1, if_true, hv]
        rw [e1]
        exact ⟨iv', lv', rfl, fun _ v hv => (by cases hv), g4, g5⟩
      | some v =>
        rw [hv] at g3
        rw [if_pos (show b2i (some v).isNone = 0 from rfl), g3 v rfl]
        by_cases h0 : v = lN 0
        · rw [if_pos ((lg_cmp_eq _ _).mpr h0), sg212_57]
          have e1 : one1 (cl i) (cl i).1 w = none := by simp only [one1, if_true, hv, if_pos h0]
          rw [e1]
          exact ⟨iv', lv', rfl, fun _ v hv => (by cases hv), g4, g5⟩
        · rw [if_neg (fun e => h0 ((lg_cmp_eq _ _).mp e))]
          exact sums iv' lv' g4 g5 (by simp only [one1, if_true, hv, if_neg h0])
/-- the law in force in the reference's row -/
def lawG (g : Nat → Int32) (cl : Nat → CL) (n : Nat) : Prop := (g 4 = -1 ∧ n = 0) ∨ ∃ k, k < 6 ∧ g 4 = nI k ∧ lawM g (110 + 900 * k) cl n
theorem m_tells_loop (X : XE) (d : Nat) (im lw : List (Option Nat)) (tl : List XC) {b : Nat} (hb : b ≤ 4610) {cl : Nat → CL} {n hd : Nat} (hh : hd < 4) {w : Nat → Int32} (v2 v3 : Int32) (v4 : Int64) : ∀ (m i : Nat) (iv : Nat → Nat → Int32) (lv : Nat → Nat → Int64) (w9 : Option XV), i + m = n → iv 46 34 = nI b → iv 46 20 = nI 0 → lawM (iv 48) b cl n → (∀ j, j < 10 → lv 64 (j + 1) = (w j).toInt64) →
    ∃ iv' lv', run X (call X xT (d + 3)) false 2 xc211 257 [some (.inr (.inr (some 46))), some (.inl (nI hd)), some (.inl v2), some (.inl v3), some (.inr (.inl v4)), none, some (.inr (.inl ((tellN cl hd w i).getD v4))), none, some (.inl (nI i)), w9] [] (SS im lw tl, iv, lv) = some (some (.inr (.inl ((tellN cl hd w n).getD v4))), (SS im lw tl, iv', lv')) ∧ agB iv iv' ∧ agO lv lv' := by
  intro m
  induction m with
  | zero =>
    intro i iv lv w9 hi h34 h20 hl hw
    rw [sg211_257, h34, nI_add, if_pos (inb_nI (by omega) (by omega)), nI_clamp (by omega), hl.2.1, if_pos (nI_le (by omega) (by have := hl.1; omega))]
    refine ⟨iv, lv, ?_, agB.rf, agO.rf⟩
    rw [show i = n by omega]
  | succ m ih =>
    intro i iv lv w9 hi h34 h20 hl hw
    have hn := hl.1
    have q1 : iv 48 (b + 2 + 8 * i) = nI (cl i).1 ∧ (cl i).1 < 4 ∧ ((cl i).1 = 3 → ∀ w, (cl i).2.2 w = some (lN 1)) := by
      obtain ⟨-, -, cd, sz, -, -, hcl⟩ := hl
      exact ⟨(hcl i (by omega)).1, (hcl i (by omega)).2.1, (hcl i (by omega)).2.2.2.1⟩
    rw [sg211_257, h34, nI_add, if_pos (inb_nI (by omega) (by omega)), nI_clamp (by omega), hl.2.1, if_neg (nI_ge (show i < n by omega) (by omega)), nI_add, pk_mul, nI_add, if_pos (inb_nI (by omega) (by omega)), nI_clamp (by omega), q1.1]
    by_cases hk : (cl i).1 = hd
    · rw [if_pos (by rw [hk])]
      obtain ⟨iv1, lv1, g1, g2, g3, g4⟩ := m_isSo X d im lw tl iv lv hb h34 h20 hl hw (show i < n by omega)
      have go : ∀ x : Int64, x = (tellN cl hd w (i + 1)).getD v4 → ∃ iv' lv', run X (call X xT (d + 3)) false 2 xc211 322 [some (.inr (.inr (some 46))), some (.inl (nI hd)), some (.inl v2), some (.inl v3), some (.inr (.inl v4)), none, some (.inr (.inl x)), none, some (.inl (nI i)), some (.inl (nI (b + 2 + 8 * i)))] [] (SS im lw tl, iv1, lv1) = some (some (.inr (.inl ((tellN cl hd w n).getD v4))), (SS im lw tl, iv', lv')) ∧ agB iv iv' ∧ agO lv lv' := by
        intro x hx
        obtain ⟨iv', lv', k1, k2, k3⟩ := ih (i + 1) iv1 lv1 (some (.inl (nI (b + 2 + 8 * i)))) (by omega) (by rw [g3 46 34 (by omega)]; exact h34) (by rw [g3 46 20 (by omega)]; exact h20) (by rw [g3.row]; exact hl) (fun j hj => by rw [g4 64 (j + 1) (by omega) (by omega)]; exact hw j hj)
        refine ⟨iv', lv', ?_, g3.tr k2, g4.tr k3⟩
        rw [sg211_322, nI_add, hx]
        exact k1
      rw [g1, bI_some, sg211_304, b2i_ite]
      rw [hk] at g2 ⊢
      cases ho : one1 (cl i) hd w with
      | none =>
        rw [if_neg (by simp)]
        exact go _ (by simp only [tellN, ho])
      | some v =>
        rw [if_pos (show (some v).isSome = true from rfl)]
        by_cases h3 : hd = 3
        · rw [if_pos (by rw [h3]), sg211_320]
          refine go _ ?_
          have e : v = lN 1 := by
            have e2 := ho
            simp only [one1, if_pos hk, q1.2.2 (by omega) w] at e2
            split at e2
            · split at e2
              · cases e2
              · exact (Option.some.inj e2).symm
            · cases e2
          simp only [tellN, ho, Option.getD_some, e]
        · rw [if_neg (fun e => h3 ((nI_eq (by omega) (by omega)).mp e)), sg211_320]
          refine go _ ?_
          simp only [tellN, ho, Option.getD_some]
          exact g2 h3 v ho
    · rw [if_neg (fun e => hk ((nI_eq (by omega) (by omega)).mp e)), sg211_322, nI_add]
      have e : (tellN cl hd w i).getD v4 = (tellN cl hd w (i + 1)).getD v4 := by simp only [tellN, one1, if_neg hk]
      rw [e]
      exact ih (i + 1) iv lv _ (by omega) h34 h20 hl hw
