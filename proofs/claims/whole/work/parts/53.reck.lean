/-! the reference: its sums and tests -/
/-- a code of the reference run up to 'last'; outer none: it is stuck, inner none: broken -/
def evm2 (o : Int) (st : List Int64) (K : List Int64 → Option (Option Int64)) : Option (Option Int64) := match st with
  | y :: x :: q => (match joi o x y with
    | some z => K (z :: q)
    | none => some none)
  | _ => none
def evm1 (st : List Int64) (K : Int64 → List Int64 → Option (Option Int64)) : Option (Option Int64) := match st with
  | y :: q => K y q
  | [] => none
def evm (cd : Nat → Nat × Nat) (wv : Nat → Nat → Int64) (last : Nat) : Nat → Nat → List Int64 → Option (Option Int64)
  | 0, _, _ => none
  | n + 1, k, st =>
    if last ≤ k then some (some (st.getLastD (lN 0)))
    else if (cd k).1 < 20 then (if st.length < 400 then evm cd wv last n (k + 1) ((if (cd k).1 = 0 then (nI (cd k).2).toInt64 else wv (cd k).1 (cd k).2) :: st) else none)
    else if (cd k).1 < 28 then evm2 ((cd k).1 - 17 : Nat) st (fun q => evm cd wv last n (k + 1) q)
    else if (cd k).1 = 28 then evm1 st (fun y q => evm cd wv last n (k + 1) ((lN 1 - y) :: q))
    else evm1 st (fun y q => if y = (if (cd k).1 = 29 then lN 0 else lN 1) then evm cd wv last n (cd k).2 (y :: q) else evm cd wv last n (k + 1) q)
theorem evm_s (cd : Nat → Nat × Nat) (wv : Nat → Nat → Int64) (last n k : Nat) (st : List Int64) : evm cd wv last (n + 1) k st = (if last ≤ k then some (some (st.getLastD (lN 0)))
    else if (cd k).1 < 20 then (if st.length < 400 then evm cd wv last n (k + 1) ((if (cd k).1 = 0 then (nI (cd k).2).toInt64 else wv (cd k).1 (cd k).2) :: st) else none)
    else if (cd k).1 < 28 then evm2 ((cd k).1 - 17 : Nat) st (fun q => evm cd wv last n (k + 1) q)
    else if (cd k).1 = 28 then evm1 st (fun y q => evm cd wv last n (k + 1) ((lN 1 - y) :: q))
    else evm1 st (fun y q => if y = (if (cd k).1 = 29 then lN 0 else lN 1) then evm cd wv last n (cd k).2 (y :: q) else evm cd wv last n (k + 1) q)) := rfl
theorem evm2_mono {o : Int} {st : List Int64} {K K' : List Int64 → Option (Option Int64)} {r : Option Int64} (h : ∀ q, K q = some r → K' q = some r) (e : evm2 o st K = some r) : evm2 o st K' = some r := by
  unfold evm2 at e ⊢
  split at e
  · split at e
    · exact h _ e
    · exact e
  · cases e
theorem evm1_mono {st : List Int64} {K K' : Int64 → List Int64 → Option (Option Int64)} {r : Option Int64} (h : ∀ y q, K y q = some r → K' y q = some r) (e : evm1 st K = some r) : evm1 st K' = some r := by
  unfold evm1 at e ⊢
  split at e
  · exact h _ _ e
  · cases e
theorem evm_up (cd : Nat → Nat × Nat) (wv : Nat → Nat → Int64) (last : Nat) : ∀ (n k : Nat) (st : List Int64) (r : Option Int64), evm cd wv last n k st = some r → evm cd wv last (n + 1) k st = some r := by
  intro n
  induction n with
  | zero => intro k st r h; cases h
  | succ n ih =>
    intro k st r h
    rw [evm_s] at h
    rw [evm_s]
    by_cases h1 : last ≤ k
    · rw [if_pos h1] at h ⊢; exact h
    rw [if_neg h1] at h ⊢
    by_cases h2 : (cd k).1 < 20
    · rw [if_pos h2] at h ⊢
      by_cases h3 : st.length < 400
      · rw [if_pos h3] at h ⊢; exact ih _ _ _ h
      · rw [if_neg h3] at h; cases h
    rw [if_neg h2] at h ⊢
    by_cases h4 : (cd k).1 < 28
    · rw [if_pos h4] at h ⊢
      exact evm2_mono (fun q e => ih _ _ _ e) h
    rw [if_neg h4] at h ⊢
    by_cases h5 : (cd k).1 = 28
    · rw [if_pos h5] at h ⊢
      exact evm1_mono (fun y q e => ih _ _ _ e) h
    rw [if_neg h5] at h ⊢
    refine evm1_mono (fun y q e => ?_) h
    by_cases c : y = (if (cd k).1 = 29 then lN 0 else lN 1)
    · rw [if_pos c] at e ⊢; exact ih _ _ _ e
    · rw [if_neg c] at e ⊢; exact ih _ _ _ e
theorem evm_le (cd : Nat → Nat × Nat) (wv : Nat → Nat → Int64) (last : Nat) {n m : Nat} (hnm : n ≤ m) {k : Nat} {st : List Int64} {r : Option Int64} (h : evm cd wv last n k st = some r) : evm cd wv last m k st = some r := by
  induction hnm with
  | refl => exact h
  | step _ ih => exact evm_up _ _ _ _ _ _ _ ih
theorem upd2_as0 {α : Type} (f : Nat → Nat → α) (a k : Nat) {x : α} (h : f a k = x) : upd2 f a k x = f := by rw [← h, upd2_id]
theorem cap9_in (z : Int64) : (decide (lN 18446744072709551616 ≤ z ∧ z ≤ lN 1000000000)) = (cap9 z).isSome := by
  unfold cap9
  by_cases h1 : z < lN 18446744072709551616
  · rw [if_pos h1, decide_eq_false (fun q => by have := (fb_le64 _ _).mp q.1; rw [fb_lt64] at h1; omega)]; rfl
  · rw [if_neg h1]
    by_cases h2 : lN 1000000000 < z
    · rw [if_pos h2, decide_eq_false (fun q => by have := (fb_le64 _ _).mp q.2; rw [fb_lt64] at h2; omega)]; rfl
    · rw [if_neg h2, decide_eq_true ⟨by rw [fb_le64]; rw [fb_lt64] at h1; omega, by rw [fb_le64]; rw [fb_lt64] at h2; omega⟩]; rfl
theorem cap9_eq {z u : Int64} (h : cap9 z = some u) : u = z := by
  unfold cap9 at h
  split at h
  · cases h
  · split at h
    · cases h
    · exact (Option.some.inj h).symm
/-- behind reckon: the value is stored and held against the limit -/
theorem m_reck_266 (X : XE) (d : Nat) (im lw : List (Option Nat)) (tl : List XC) (iv : Nat → Nat → Int32) (lv : Nat → Nat → Int64) (hb : iv 46 38 = nI 0) (f : Nat → Int64) (v1 v2 v4 v5 v6 : Int32) (z : Int64) {m : Nat} (hm : m < 400) :
    run X (call X xT (d + 1)) false 0 xc213 266 [some (.inr (.inr (some 46))), some (.inl v1), some (.inl v2), some (.inl (nI (m + 1))), some (.inl v4), some (.inl v5), some (.inl v6)] [.inr (.inl z), .inl (nI m), .inr (.inr (some 66))] (SS im lw tl, iv, upr lv 66 f) = run X (call X xT (d + 1)) false 0 xc213 10 [some (.inr (.inr (some 46))), some (.inl v1), some (.inl v2), some (.inl (nI (m + 1))), some (.inl v4), some (.inl v5), some (.inl v6)] [] (SS im lw tl, (if (cap9 z).isSome = true then iv else upd2 iv 46 38 (nI 1)), upr lv 66 (pu f m z)) := by
  have e1 : nI (m + 1) - nI 1 = nI m := by rw [pk_sub (by omega)]; rfl
  rw [sg213_266, if_pos (inb_nI hm (by omega)), hb, if_pos nI0_eq0, e1, if_pos (inb_nI hm (by omega)), nI_clamp (by omega), upd2_upr, m_in X d, bI_some, sg213_292, upr_at, pu_s, cap9_in, b2i_ite]
  by_cases h : (cap9 z).isSome = true
  · rw [if_pos h, if_pos h, sg213_300, if_pos (by decide), sg213_368, upd2_as0 _ _ _ hb]
  · rw [if_neg h, if_neg h, sg213_295, sg213_300, if_pos (by decide), sg213_368]
/-- an operation of two -/
theorem m_reck_two (X : XE) (d : Nat) (im lw : List (Option Nat)) (tl : List XC) (iv : Nat → Nat → Int32) (lv : Nat → Nat → Int64) (hb : iv 46 38 = nI 0) (f : Nat → Int64) (v1 v2 v6 : Int32) (x y : Int64) {o k m : Nat} (ho : 20 ≤ o) (ho2 : o < 28) (hm : m + 1 < 400) (hx : f m = x) (hy : f (m + 1) = y) (w6 : Option XV) :
    ∃ f', run X (call X xT (d + 1)) false 0 xc213 95 [some (.inr (.inr (some 46))), some (.inl v1), some (.inl v2), some (.inl (nI (m + 2))), some (.inl (nI k)), some (.inl (nI o)), w6] [.inl v6] (SS im lw tl, iv, upr lv 66 f) = run X (call X xT (d + 1)) false 0 xc213 10 [some (.inr (.inr (some 46))), some (.inl v1), some (.inl v2), some (.inl (nI (m + 1))), some (.inl (nI (k + 1))), some (.inl (nI o)), some (.inl v6)] [] (SS im lw tl, (if (joi ((o - 17 : Nat) : Int) x y).isSome = true then iv else upd2 iv 46 38 (nI 1)), upr lv 66 f') ∧ ∀ z, joi ((o - 17 : Nat) : Int) x y = some z → f' = pu f m z := by
  have e1 : nI (m + 2) + (-1) = nI (m + 1) := pk_m1 (m + 1)
  have e2 : nI (m + 1) - nI 1 = nI m := by rw [pk_sub (by omega)]; rfl
  rw [sg213_95, if_pos (nI_le ho (by omega)), if_neg (nI_ge ho2 (by omega)), e1, e2, if_pos (inb_nI (show m < 400 by omega) (by omega)), if_pos (inb_nI (show m + 1 < 400 by omega) (by omega)), nI_clamp (by omega), nI_clamp (by omega), upr_at, upr_at, hx, hy, tr216, nI_toInt (by omega), nI_add]
  have fin : ∀ z : Int64, joi ((o - 17 : Nat) : Int) x y = cap9 z → ∃ f', bL (some (some (.inr (.inl z)), (SS im lw tl, iv, upr lv 66 f))) (fun r2 h1 => run X (call X xT (d + 1)) false 0 xc213 266 [some (.inr (.inr (some 46))), some (.inl v1), some (.inl v2), some (.inl (nI (m + 1))), some (.inl (nI (k + 1))), some (.inl (nI o)), some (.inl v6)] [.inr (.inl r2), .inl (nI m), .inr (.inr (some 66))] h1) = run X (call X xT (d + 1)) false 0 xc213 10 [some (.inr (.inr (some 46))), some (.inl v1), some (.inl v2), some (.inl (nI (m + 1))), some (.inl (nI (k + 1))), some (.inl (nI o)), some (.inl v6)] [] (SS im lw tl, (if (joi ((o - 17 : Nat) : Int) x y).isSome = true then iv else upd2 iv 46 38 (nI 1)), upr lv 66 f') ∧ ∀ z, joi ((o - 17 : Nat) : Int) x y = some z → f' = pu f m z := by
    intro z hz
    refine ⟨pu f m z, ?_, fun u hu => ?_⟩
    · rw [bL_some, m_reck_266 X d im lw tl iv lv hb f v1 v2 _ _ v6 z (by omega), hz]
    · rw [hz] at hu; rw [cap9_eq hu]
  have brk : joi ((o - 17 : Nat) : Int) x y = none → ∃ f', bL (some (some (.inr (.inl (lN 0))), (SS im lw tl, upd2 iv 46 38 (nI 1), upr lv 66 f))) (fun r2 h1 => run X (call X xT (d + 1)) false 0 xc213 266 [some (.inr (.inr (some 46))), some (.inl v1), some (.inl v2), some (.inl (nI (m + 1))), some (.inl (nI (k + 1))), some (.inl (nI o)), some (.inl v6)] [.inr (.inl r2), .inl (nI m), .inr (.inr (some 66))] h1) = run X (call X xT (d + 1)) false 0 xc213 10 [some (.inr (.inr (some 46))), some (.inl v1), some (.inl v2), some (.inl (nI (m + 1))), some (.inl (nI (k + 1))), some (.inl (nI o)), some (.inl v6)] [] (SS im lw tl, (if (joi ((o - 17 : Nat) : Int) x y).isSome = true then iv else upd2 iv 46 38 (nI 1)), upr lv 66 f') ∧ ∀ z, joi ((o - 17 : Nat) : Int) x y = some z → f' = pu f m z := by
    intro hz
    refine ⟨pu f m (lN 0), ?_, fun u hu => by rw [hz] at hu; cases hu⟩
    rw [bL_some, sg213_266, if_pos (inb_nI (by omega) (by omega)), upd2_self, if_neg nI1_ne0, sg213_295, sg213_300, if_pos (by decide), sg213_368, upd2_upd2, nI_clamp (by omega), upd2_upr, hz, if_neg (by simp)]
  have hc : o = 20 ∨ o = 21 ∨ o = 22 ∨ o = 23 ∨ o = 24 ∨ o = 25 ∨ o = 26 ∨ o = 27 := by omega
  rcases hc with rfl | rfl | rfl | rfl | rfl | rfl | rfl | rfl
  · have := fin (x + y) (by simp [joi])
    simpa using this
  · have := fin (x - y) (by simp [joi])
    simpa using this
  · have := fin (x * y) (by simp [joi])
    simpa using this
  · by_cases h0 : y = 0
    · have e3 : lg_cmp y (lN 0) = 0 := (lg_cmp_eq _ _).mpr h0
      have := brk (by simp [joi, h0])
      simpa [e3] using this
    · have e3 : ¬ lg_cmp y (lN 0) = 0 := fun h => h0 ((lg_cmp_eq _ _).mp h)
      have := fin (x / y) (by simp [joi, h0])
      simpa [e3, h0, upd2_as0 _ _ _ hb] using this
  · by_cases h0 : y = 0
    · have e3 : lg_cmp y (lN 0) = 0 := (lg_cmp_eq _ _).mpr h0
      have := brk (by simp [joi, h0])
      simpa [e3] using this
    · have e3 : ¬ lg_cmp y (lN 0) = 0 := fun h => h0 ((lg_cmp_eq _ _).mp h)
      have := fin (x - x / y * y) (by simp [joi, h0])
      simpa [e3, h0, upd2_as0 _ _ _ hb] using this
  · by_cases h : x < y
    · have e3 : ¬ (0 : Int32) ≤ lg_cmp x y := fun q => absurd h (by rw [lg_cmp_ge, fb_le64] at q; rw [fb_lt64]; omega)
      have := fin (lN 1) (by simp [joi, h])
      simpa [e3] using this
    · have e3 : (0 : Int32) ≤ lg_cmp x y := by rw [lg_cmp_ge, fb_le64]; rw [fb_lt64] at h; omega
      have := fin (lN 0) (by simp [joi, h])
      simpa [e3] using this
  · by_cases h : y < x
    · have e3 : ¬ lg_cmp x y ≤ 0 := fun q => absurd h (by rw [lg_cmp_le, fb_le64] at q; rw [fb_lt64]; omega)
      have := fin (lN 1) (by simp [joi, h])
      simpa [e3] using this
    · have e3 : lg_cmp x y ≤ 0 := by rw [lg_cmp_le, fb_le64]; rw [fb_lt64] at h; omega
      have := fin (lN 0) (by simp [joi, h])
      simpa [e3] using this
  · by_cases h : x = y
    · have e3 : lg_cmp x y = 0 := (lg_cmp_eq _ _).mpr h
      have := fin (lN 1) (by simp [joi, h])
      simpa [e3] using this
    · have e3 : ¬ lg_cmp x y = 0 := fun q => h ((lg_cmp_eq _ _).mp q)
      have := fin (lN 0) (by simp [joi, h])
      simpa [e3] using this
theorem stk_last {f : Nat → Int64} : ∀ {st : List Int64}, stk f st → st ≠ [] → st.getLastD (lN 0) = f 0 := by
  intro st
  induction st with
  | nil => intro _ h; exact absurd rfl h
  | cons v r ih =>
    intro h _
    cases r with
    | nil => exact h.1.symm
    | cons v2 r2 => rw [List.getLastD_cons, ← ih h.2 (by simp)]; rfl
theorem m_reck_loop (X : XE) (d : Nat) (im lw : List (Option Nat)) (tl : List XC) (iv : Nat → Nat → Int32) (lv : Nat → Nat → Int64) {last : Nat} {cd : Nat → Nat × Nat} {wv : Nat → Nat → Int64} (hb : iv 46 38 = nI 0) (hlast : last ≤ 400) (hcd : ∀ k, k < last → (cd k).1 ≤ 30 ∧ (cd k).2 < 1000000) (v1 : Int32)
    (H2 : ∀ (k m : Nat) (f : Nat → Int64) (w5 w6 : Option XV), k < last → run X (call X xT (d + 1)) false 0 xc213 10 [some (.inr (.inr (some 46))), some (.inl v1), some (.inl (nI last)), some (.inl (nI m)), some (.inl (nI k)), w5, w6] [] (SS im lw tl, iv, upr lv 66 f) = run X (call X xT (d + 1)) false 0 xc213 95 [some (.inr (.inr (some 46))), some (.inl v1), some (.inl (nI last)), some (.inl (nI m)), some (.inl (nI k)), some (.inl (nI (cd k).1)), w6] [.inl (nI (cd k).2)] (SS im lw tl, iv, upr lv 66 f))
    (H1 : ∀ (k m : Nat) (f : Nat → Int64) (w6 : Option XV), k < last → m < 400 → (cd k).1 < 20 → run X (call X xT (d + 1)) false 0 xc213 95 [some (.inr (.inr (some 46))), some (.inl v1), some (.inl (nI last)), some (.inl (nI m)), some (.inl (nI k)), some (.inl (nI (cd k).1)), w6] [.inl (nI (cd k).2)] (SS im lw tl, iv, upr lv 66 f) = run X (call X xT (d + 1)) false 0 xc213 10 [some (.inr (.inr (some 46))), some (.inl v1), some (.inl (nI last)), some (.inl (nI (m + 1))), some (.inl (nI (k + 1))), some (.inl (nI (cd k).1)), some (.inl (nI (cd k).2))] [] (SS im lw tl, iv, upr lv 66 (pu f m (if (cd k).1 = 0 then (nI (cd k).2).toInt64 else wv (cd k).1 (cd k).2)))) :
    ∀ (n k : Nat) (st : List Int64) (f : Nat → Int64) (w5 w6 : Option XV) (res : Option Int64), k < 2000000 → st.length ≤ 400 → stk f st → evm cd wv last n k st = some res →
    ∃ f' x, run X (call X xT (d + 1)) false 0 xc213 10 [some (.inr (.inr (some 46))), some (.inl v1), some (.inl (nI last)), some (.inl (nI st.length)), some (.inl (nI k)), w5, w6] [] (SS im lw tl, iv, upr lv 66 f) = some (none, (SS im lw tl, upd2 iv 46 38 (b2i res.isNone), upd2 (upr lv 66 f') 46 39 x)) ∧ ∀ v, res = some v → x = v := by
  intro n
  induction n with
  | zero => intro k st f w5 w6 res _ _ _ h; cases h
  | succ n ih =>
    intro k st f w5 w6 res hk hl hst h
    rw [evm_s] at h
    by_cases h1 : last ≤ k
    · rw [if_pos h1] at h
      cases h
      rw [sg213_10, if_pos (nI_le h1 (by omega)), sg213_371]
      have e0 : upd2 iv 46 38 (b2i (some (st.getLastD (lN 0))).isNone) = iv := upd2_as0 _ _ _ hb
      rw [e0]
      cases st with
      | nil =>
        rw [if_pos (show nI ([] : List Int64).length ≤ 0 by decide), sg213_386]
        exact ⟨f, _, rfl, fun v hv => by injection hv with hv⟩
      | cons y q =>
        rw [if_neg (nI_nle (by simp) (by simp only [List.length_cons] at hl ⊢; omega)), sg213_386, upr_at]
        refine ⟨f, _, rfl, fun v hv => ?_⟩
        injection hv with hv
        rw [← hv]
        exact (stk_last hst (by simp)).symm
    rw [if_neg h1] at h
    have hc := hcd k (by omega)
    rw [H2 k st.length f w5 w6 (by omega)]
    by_cases h2 : (cd k).1 < 20
    · rw [if_pos h2] at h
      by_cases h3 : st.length < 400
      · rw [if_pos h3] at h
        rw [H1 k st.length f w6 (by omega) h3 h2]
        exact ih (k + 1) _ _ _ _ res (by omega) (by simp only [List.length_cons]; omega) (stk_push hst) h
      · rw [if_neg h3] at h; cases h
    rw [if_neg h2] at h
    by_cases h4 : (cd k).1 < 28
    · rw [if_pos h4] at h
      match st, h, hl, hst with
      | y :: x :: q, h, hl, hst =>
        simp only [List.length_cons] at hl ⊢
        obtain ⟨hy, hx, hq⟩ := hst
        simp only [List.length_cons] at hy
        obtain ⟨f', g1, g2⟩ := m_reck_two X d im lw tl iv lv hb f v1 (nI last) (nI (cd k).2) x y (o := (cd k).1) (k := k) (m := q.length) (by omega) h4 (by omega) hx hy w6
        rw [g1]
        simp only [evm2] at h
        cases hj : joi ((cd k).1 - 17 : Nat) x y with
        | none =>
          rw [hj] at h
          cases h
          rw [if_neg (by simp), sg213_10, upd2_self]
          rw [show (if nI last ≤ nI (k + 1) then run X (call X xT (d + 1)) false 0 xc213 371 [some (.inr (.inr (some 46))), some (.inl v1), some (.inl (nI last)), some (.inl (nI (q.length + 1))), some (.inl (nI (k + 1))), some (.inl (nI (cd k).1)), some (.inl (nI (cd k).2))] [] (SS im lw tl, upd2 iv 46 38 (nI 1), upr lv 66 f') else _) = run X (call X xT (d + 1)) false 0 xc213 371 [some (.inr (.inr (some 46))), some (.inl v1), some (.inl (nI last)), some (.inl (nI (q.length + 1))), some (.inl (nI (k + 1))), some (.inl (nI (cd k).1)), some (.inl (nI (cd k).2))] [] (SS im lw tl, upd2 iv 46 38 (nI 1), upr lv 66 f') by
            split
            · rfl
            · exact if_neg nI1_ne0]
          rw [sg213_371, if_neg (nI_nle (by omega) (by omega)), sg213_386]
          exact ⟨f', _, rfl, fun v hv => by cases hv⟩
        | some z =>
          rw [hj] at h
          rw [if_pos (by simp), g2 z hj]
          exact ih (k + 1) (z :: q) _ _ _ res (by omega) (by simp only [List.length_cons]; omega) (stk_push hq) h
      | [_], h, _, _ => cases h
      | [], h, _, _ => cases h
    rw [if_neg h4] at h
    by_cases h5 : (cd k).1 = 28
    · rw [if_pos h5] at h
      match st, h, hl, hst with
      | y :: q, h, hl, hst =>
        simp only [List.length_cons] at hl ⊢
        rw [sg213_95, if_pos (nI_le (by omega) (by omega)), if_pos (nI_le (by omega) (by omega)), if_pos (by rw [h5]), show nI (q.length + 1) - nI 1 = nI q.length by rw [pk_sub (by omega)]; rfl, if_pos (inb_nI (by omega) (by omega)), if_pos (inb_nI (by omega) (by omega)), sg213_368, nI_clamp (by omega), upr_at, hst.1, upd2_upr, nI_add]
        exact ih (k + 1) ((lN 1 - y) :: q) _ _ _ res (by omega) (by simp only [List.length_cons]; omega) (stk_push hst.2) h
      | [], h, _, _ => cases h
    rw [if_neg h5] at h
    match st, h, hl, hst with
    | y :: q, h, hl, hst =>
      simp only [List.length_cons] at hl ⊢
      simp only [evm1] at h
      rw [sg213_95, if_pos (nI_le (by omega) (by omega)), if_pos (nI_le (by omega) (by omega)), if_neg (fun e => h5 ((nI_eq (by omega) (by omega)).mp e)), show nI (q.length + 1) - nI 1 = nI q.length by rw [pk_sub (by omega)]; rfl, if_pos (inb_nI (by omega) (by omega)), nI_clamp (by omega), upr_at, hst.1, nI_add]
      have key : ∀ u : Int64, (if y = u then evm cd wv last n (cd k).2 (y :: q) else evm cd wv last n (k + 1) q) = some res → ∃ f' x, run X (call X xT (d + 1)) false 0 xc213 354 [some (.inr (.inr (some 46))), some (.inl v1), some (.inl (nI last)), some (.inl (nI (q.length + 1))), some (.inl (nI (k + 1))), some (.inl (nI (cd k).1)), some (.inl (nI (cd k).2))] [.inr (.inl u), .inr (.inl y)] (SS im lw tl, iv, upr lv 66 f) = some (none, (SS im lw tl, upd2 iv 46 38 (b2i res.isNone), upd2 (upr lv 66 f') 46 39 x)) ∧ ∀ v, res = some v → x = v := by
        intro u hu
        rw [sg213_354]
        by_cases e : y = u
        · rw [if_pos e] at hu
          rw [if_pos ((lg_cmp_eq _ _).mpr e), sg213_368]
          exact ih (cd k).2 (y :: q) f _ _ res (by omega) (by simp only [List.length_cons]; omega) hst hu
        · rw [if_neg e] at hu
          rw [if_neg (fun g => e ((lg_cmp_eq _ _).mp g)), sg213_368, pk_m1]
          exact ih (k + 1) q f _ _ res (by omega) (by omega) hst.2 hu
      by_cases h6 : (cd k).1 = 29
      · rw [if_pos h6] at h
        rw [if_pos (by rw [h6])]
        exact key _ h
      · rw [if_neg h6] at h
        rw [if_neg (fun e => h6 ((nI_eq (by omega) (by omega)).mp e))]
        exact key _ h
    | [], h, _, _ => cases h
