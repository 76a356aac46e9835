theorem e20 (im lw : List (Option Nat)) (tl : List XC) : (SS im lw tl)[20]? = some (50, 10, []) := rfl
theorem fit0 {v : Int64} (h : v.toInt32.toInt64 = v) : (v.toInt32 = 0) ↔ v = lN 0 := by
  constructor
  · intro e
    rw [e] at h
    rw [← h]
    rfl
  · intro e
    rw [e]
    rfl
/-- a code of a clause run, at any state of the stack -/
theorem c_runs2 (X : XE) (d : Nat) (im lw : List (Option Nat)) (tl : List XC) (iv : Nat → Nat → Int32) (lv : Nat → Nat → Int64) {a : Nat} {cd : Nat → Nat × Nat} {sz : Nat} (hp : progc (SS im lw tl) iv a cd sz) (hsz : sz ≤ 400) (t : Int32) (f : Nat → Int64) {i : Nat} (hi : i < 2000) :
    ∃ t' f', call X xT (d + 2) 34 [.inr (.inr (some 18)), .inr (.inr (some a)), .inl (nI i), .inr (.inr (some 20))] (SS im lw tl, upd2 iv 18 1 t, upr lv 19 f) = some (some (.inl (b2i (ev cd sz (iv 20) 10 sz i []).isSome)), (SS im lw tl, upd2 iv 18 1 t', upr lv 19 f')) ∧ ∀ v, ev cd sz (iv 20) 10 sz i [] = some v → f' 0 = v := by
  obtain ⟨t', f', h1, h2⟩ := c_runs X d im lw tl (upd2 iv 18 1 t) (upr lv 19 f) (progc_top hp t) hsz (show 20 < 1000000 by decide) (e20 im lw tl) (by decide) (i := i) (by omega)
  rw [upd2_off iv 18 1 t (show 20 ≠ 18 by decide)] at h1 h2
  rw [upd2_upd2, upr_upr] at h1
  exact ⟨t', f', h1, h2⟩
theorem c_holds_loop (X : XE) (d : Nat) (im lw : List (Option Nat)) (tl : List XC) (iv : Nat → Nat → Int32) (lv : Nat → Nat → Int64) {a n k : Nat} {cl : Nat → CL} {cd : Nat → Nat × Nat} {sz : Nat} {rw : Nat → Int32} (hk : k < 4) (hp : progc (SS im lw tl) iv a cd sz) (hsz : sz ≤ 400) (hr : progr (SS im lw tl) iv a rw n) (hc : ∀ i, i < n → rw (i * 5) = nI (cl i).1 ∧ (cl i).1 < 4 ∧ plc cd sz 10 (rw (i * 5 + 4)) (cl i).2.1 ∧ plc cd sz 10 (rw (i * 5 + 2)) (cl i).2.2 ∧ ((cl i).1 ≠ 3 → rw (i * 5 + 2) ≠ -1)) :
    ∀ (m : Nat) (t : Int32) (f : Nat → Int64) (w4 w5 : Option XV), m ≤ n → ∃ t' f', run X (call X xT (d + 2)) false 4 xc31 13 [some (.inr (.inr (some 17))), some (.inr (.inr (some a))), some (.inl (nI k)), some (.inl (nI m + (-1))), w4, w5] [] (SS im lw tl, upd2 iv 18 1 t, upr lv 19 f) = some (some (.inl (b2i (tellN cl k (iv 20) m).isSome)), (SS im lw tl, upd2 iv 18 1 t', upr lv 19 f')) ∧ (k ≠ 3 → ∀ v, tellN cl k (iv 20) m = some v → f' 0 = v) := by
  have hR : ∀ (k : Nat → Option XR), objR (SS im lw tl) (some a) 5 k = k a := by
    obtain ⟨c, r, M, rs, h1, -⟩ := hr
    exact fun k => objR_ok h1 rfl k
  have hn : n ≤ 12 := by
    obtain ⟨c, r, M, rs, -, -, -, -, -, -, h7, -⟩ := hr
    exact h7
  intro m
  induction m with
  | zero =>
    intro t f w4 w5 hm
    rw [sg31_13, if_pos (show nI 0 + (-1) < 0 by decide)]
    exact ⟨_, _, rfl, fun _ u hu => by cases hu⟩
  | succ m ih =>
    intro t f w4 w5 hm
    obtain ⟨c1, c2, c3, c4, c5⟩ := hc m (by omega)
    have hr2 := progr_top hr t
    rw [sg31_13, pk_m1, if_neg (nI_pos (by omega)), hR, c_part (d := d + 1) hr2 (show m < n by omega) (show 4 < 5 by decide), bI_some, sg31_23, hR, c_part (d := d + 1) hr2 (show m < n by omega) (show 2 < 5 by decide), bI_some, sg31_31, hR, c_part (d := d + 1) hr2 (show m < n by omega) (show 0 < 5 by decide), bI_some, sg31_39, Nat.add_zero, c1]
    by_cases hkk : (cl m).1 = k
    · rw [if_pos (by rw [hkk])]
      have next : ∀ (t : Int32) (f : Nat → Int64) (w4 w5 : Option XV), one1 (cl m) k (iv 20) = none → ∃ t' f', run X (call X xT (d + 2)) false 4 xc31 13 [some (.inr (.inr (some 17))), some (.inr (.inr (some a))), some (.inl (nI k)), some (.inl (nI m + (-1))), w4, w5] [] (SS im lw tl, upd2 iv 18 1 t, upr lv 19 f) = some (some (.inl (b2i (tellN cl k (iv 20) (m + 1)).isSome)), (SS im lw tl, upd2 iv 18 1 t', upr lv 19 f')) ∧ (k ≠ 3 → ∀ v, tellN cl k (iv 20) (m + 1) = some v → f' 0 = v) := by
        intro t f w4 w5 ho
        have e : tellN cl k (iv 20) (m + 1) = tellN cl k (iv 20) m := by simp only [tellN, ho]
        rw [e]
        exact ih t f w4 w5 (by omega)
      have sums : ∀ (t : Int32) (f : Nat → Int64), one1 (cl m) k (iv 20) = (cl m).2.2 (iv 20) → ∃ t' f', (if rw (m * 5 + 2) = -1 then some (some (.inl (nI 1)), (SS im lw tl, upd2 iv 18 1 t, upr lv 19 f)) else bI (call X xT (d + 2) 34 [.inr (.inr (some 18)), .inr (.inr (some a)), .inl (rw (m * 5 + 2)), .inr (.inr (some 20))] (SS im lw tl, upd2 iv 18 1 t, upr lv 19 f)) (fun r2 h1 => run X (call X xT (d + 2)) false 4 xc31 96 [some (.inr (.inr (some 17))), some (.inr (.inr (some a))), some (.inl (nI k)), some (.inl (nI m)), some (.inl (rw (m * 5 + 4))), some (.inl (rw (m * 5 + 2)))] [.inl r2] h1)) = some (some (.inl (b2i (tellN cl k (iv 20) (m + 1)).isSome)), (SS im lw tl, upd2 iv 18 1 t', upr lv 19 f')) ∧ (k ≠ 3 → ∀ v, tellN cl k (iv 20) (m + 1) = some v → f' 0 = v) := by
        intro t f ho
        by_cases hs : rw (m * 5 + 2) = -1
        · rw [if_pos hs]
          have e : tellN cl k (iv 20) (m + 1) = some (lN 1) := by
            rcases c4 with ⟨-, q⟩ | ⟨i, q0, q, -⟩
            · rw [q] at ho
              simp only [tellN, ho]
            · exact absurd (q ▸ hs) (nI_m1 (by omega))
          rw [e]
          exact ⟨_, _, rfl, fun k3 => absurd hs (c5 (by rw [hkk]; exact k3))⟩
        · rw [if_neg hs]
          rcases c4 with ⟨q, -⟩ | ⟨i, q1, q2, q3, q4⟩
          · exact absurd q hs
          · obtain ⟨t', f', g1, g2⟩ := c_runs2 X d im lw tl iv lv hp hsz t f q1
            rw [q2, g1, bI_some, sg31_96, b2i_ite, ← q3]
            rw [← q3] at g2
            cases hv : (cl m).2.2 (iv 20) with
            | none =>
              rw [if_neg (by simp)]
              exact next t' f' _ _ (by rw [ho, hv])
            | some v =>
              have e : tellN cl k (iv 20) (m + 1) = some v := by simp only [tellN, ho, hv]
              rw [e, if_pos (show (some v).isSome = true from rfl)]
              exact ⟨_, _, rfl, fun _ u hu => by rw [← Option.some.inj hu]; exact g2 v hv⟩
      by_cases ht : rw (m * 5 + 4) = -1
      · rw [if_pos ht]
        rcases c3 with ⟨-, q⟩ | ⟨i, q1, q, -⟩
        · exact sums t f (by simp only [one1, if_pos hkk, q]; rw [if_neg (by decide)])
        · exact absurd (q ▸ ht) (nI_m1 (by omega))
      · rw [if_neg ht]
        rcases c3 with ⟨q, -⟩ | ⟨i, q1, q2, q3, q4⟩
        · exact absurd q ht
        · obtain ⟨t', f', g1, g2⟩ := c_runs2 X d im lw tl iv lv hp hsz t f q1
          rw [q2, g1, bI_some, sg31_63, b2i_ite, ← q3]
          rw [← q3] at g2
          cases hv : (cl m).2.1 (iv 20) with
          | none =>
            rw [if_neg (by simp)]
            exact next t' f' _ _ (by simp only [one1, if_pos hkk, hv])
          | some v =>
            rw [if_pos (show (some v).isSome = true from rfl), tr40, bI_some, sg31_73, upr_at, g2 v hv]
            by_cases hv0 : v = lN 0
            · rw [if_pos ((fit0 (q4 _ _ hv)).mpr hv0)]
              exact next t' f' _ _ (by simp only [one1, if_pos hkk, hv, if_pos hv0])
            · rw [if_neg (fun q => hv0 ((fit0 (q4 _ _ hv)).mp q)), ← q2]
              exact sums t' f' (by simp only [one1, if_pos hkk, hv, if_neg hv0])
    · rw [if_neg (fun q => hkk ((nI_eq (by omega) (by omega)).mp q))]
      have e : tellN cl k (iv 20) (m + 1) = tellN cl k (iv 20) m := by simp only [tellN, one1, if_neg hkk]
      rw [e]
      exact ih t f _ _ (by omega)
/-- Rules.holds -/
theorem c_holds (X : XE) (d : Nat) (im lw : List (Option Nat)) (tl : List XC) (iv : Nat → Nat → Int32) (lv : Nat → Nat → Int64) {r : Option Nat} {cl : Nat → CL} {n k : Nat} (hk : k < 4) (h : lawC (SS im lw tl) iv r cl n) :
    ∃ t f', call X xT (d + 3) 31 [.inr (.inr (some 17)), .inr (.inr r), .inl (nI k)] (SS im lw tl, iv, lv) = some (some (.inl (b2i (tellN cl k (iv 20) n).isSome)), (SS im lw tl, upd2 iv 18 1 t, upr lv 19 f')) ∧ (k ≠ 3 → ∀ v, tellN cl k (iv 20) n = some v → f' 0 = v) := by
  rcases h with ⟨e1, e2⟩ | ⟨a, cd, sz, rw, e1, ha, hp, hsz, hr, hc⟩
  · rw [tr31, e1, e2]
    refine ⟨iv 18 1, lv 19, ?_, fun _ u hu => by cases hu⟩
    rw [upd2_id, upr_id]
    rfl
  · have hl := c_holds_loop X d im lw tl iv lv hk hp hsz hr hc n (iv 18 1) (lv 19) none none (Nat.le_refl _)
    rw [upd2_id, upr_id] at hl
    obtain ⟨c, r', M, rs, h1, -⟩ := id hr
    rw [tr31, e1]
    show ∃ t f', (if a < 1000000 then _ else none) = _ ∧ _
    rw [if_pos ha, objR_ok h1 rfl, c_clauses (d := d + 1) hr, bI_some, sg31_10, m1eq]
    exact hl
