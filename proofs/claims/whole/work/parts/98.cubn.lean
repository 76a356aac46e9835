/-! cubs: one row of the reference -/
theorem okS_eat {f : Sc} (ho : okS f) {t p : Nat} (ht : t < 4) (hp : p < 6) : okS (eatF f t p) := by
  obtain ⟨a, a1, a2⟩ := near_ok (f (5 + p) + (-3)) (top := 9) (by decide)
  obtain ⟨b, b1, b2⟩ := near_ok (f (35 + (t * 6 + p)) + nI 1) (top := 9) (by decide)
  unfold eatF
  rw [a2, b2]
  exact (ho.put (by rw [tp_h hp]; exact a1)).put (by rw [tp_y ht hp]; exact b1)
theorem okS_hun : ∀ (k q : Nat) (f : Sc), q + k ≤ 6 → okS f → okS (hunL k q f) := by
  intro k
  induction k with
  | zero => intro q f _ h; exact h
  | succ k ih =>
    intro q f hq h
    obtain ⟨a, a1, a2⟩ := near_ok (f (5 + q) + nI 1) (top := 9) (by decide)
    show okS (hunL k (q + 1) _)
    rw [a2]
    exact ih (q + 1) _ (by omega) (h.put (by rw [tp_h (by omega)]; exact a1))
theorem okS_day {t n c : Nat} (ht : t < 4) (hn : n ≤ 6) {f : Sc} (h : okS f) : okS (dayC t n f c) := by
  unfold dayC
  refine okS_hun n 0 _ (by omega) ?_
  split
  · exact okS_eat h ht (by omega)
  · exact h
theorem okS_cub {t n : Nat} (ht : t < 4) (hn : n ≤ 6) {r : Sc} : ∀ (k d : Nat) (f : Sc), okS f → okS (cubF t n r k d f) := by
  intro k
  induction k with
  | zero => intro d f h; exact h
  | succ k ih => intro d f h; exact ih (d + 1) _ (okS_day ht hn h)
theorem dayC_j {t n c j : Nat} (hn : n ≤ 6) (f : Sc) (h1 : ∀ q, q < 6 → j ≠ 5 + q) (h2 : j < 35) : dayC t n f c j = f j := by
  unfold dayC
  rw [hunL_at, if_neg (fun z => h1 (j - 5) (by omega) (by omega))]
  split
  · unfold eatF; rw [pu_n _ _ _ (by omega), pu_n _ _ _ (h1 c (by omega))]
  · rfl
theorem cubF_j {t n j : Nat} (hn : n ≤ 6) (h1 : ∀ q, q < 6 → j ≠ 5 + q) (h2 : j < 35) {r : Sc} : ∀ (k d : Nat) (f : Sc), cubF t n r k d f j = f j := by
  intro k
  induction k with
  | zero => intro d f; rfl
  | succ k ih => intro d f; show cubF t n r k (d + 1) _ j = _; rw [ih, dayC_j hn f h1 h2]
theorem rowOf_le {K p m x i : Nat} (hK : 0 < K) (h : p ≤ i ∧ i < p + m) : ∃ a, a < K ∧ rowOf K (fun _ => 0) p m x i = nI a := ⟨x / K ^ (p + m - 1 - i) % K, Nat.mod_lt _ hK, by unfold rowOf; rw [if_pos h]⟩
theorem m_one (X : XE) (d : Nat) (im lw : List (Option Nat)) (tl : List XC) (iv : Nat → Nat → Int32) (lv : Nat → Nat → Int64) {A : St} (h : RelM A iv lv) (ho : OKA A) {t days x : Nat} (ht : t < 4) (hd : days ≤ 4) (hx : x < 100000) : ∃ iv' lv', call X xT (d + 8) 304 [.inr (.inr (some 46)), .inl (nI t), .inl (nI days), .inl (nI x)] (SS im lw tl, iv, lv) = some (some (.inl (nI (cubW A t days (rowOf (nP A.1.1 + 1) (fun _ => 0) 0 days x)))), (SS im lw tl, iv', lv')) ∧ RelM A iv' lv' ∧ outI iv iv' := by
  obtain ⟨p0, p1, t0, t1, hk, he, hk2, h20⟩ := mfacts h ho
  have hl := h.lawG ho
  obtain ⟨g, g1, g2, g3⟩ := m_keepAll X (d + 6) im lw tl iv lv (k := 16) (by omega)
  have u : ∀ a, a ≠ 51 → (upr iv 51 g) a = iv a := fun a ha => upr_off _ _ _ ha
  obtain ⟨iv1, w5, w6, a1, a2, a3, a4⟩ := m_cdays X (d + 5) im lw tl lv p1 ht hd hx days 0 A.1.1 (upr iv 51 g) none none (by omega) hk.np.1 (by rw [u 48 (by decide)]; exact he)
  rw [u 48 (by decide)] at a3
  have okF : okS (cubF t (nP A.1.1) (rowOf (nP A.1.1 + 1) (fun _ => 0) 0 days x) days 0 A.1.1) := okS_cub ht p1 _ _ _ hk
  have st : statE (cubF t (nP A.1.1) (rowOf (nP A.1.1 + 1) (fun _ => 0) 0 days x) days 0 A.1.1) A.1.1 := ⟨(cubF_j p1 (fun q hq => by omega) (by omega) _ _ _).symm, (cubF_j p1 (fun q hq => by omega) (by omega) _ _ _).symm, fun t ht => (cubF_j p1 (fun q hq => by omega) (by omega) _ _ _).symm⟩
  have nF : nP (cubF t (nP A.1.1) (rowOf (nP A.1.1 + 1) (fun _ => 0) 0 days x) days 0 A.1.1) = nP A.1.1 := by
    show (cubF t (nP A.1.1) (rowOf (nP A.1.1 + 1) (fun _ => 0) 0 days x) days 0 A.1.1 0).toNatClampNeg = _
    rw [← st.1]; rfl
  obtain ⟨iv2, lv2, b1, b2, b3⟩ := m_loyalTo X d im lw tl iv1 lv (l := lawOf A.1) okF ht (by rw [a4 46 (by decide), u 46 (by decide)]; exact h20) (hl.sc a3) a2
  have cw : cntL (cubF t (nP A.1.1) (rowOf (nP A.1.1 + 1) (fun _ => 0) 0 days x) days 0 A.1.1) (lawOf A.1) t (nP A.1.1) 0 (nI 0) = nI (cubW A t days (rowOf (nP A.1.1 + 1) (fun _ => 0) 0 days x)) := by
    rw [cntL_N (g := fun p => latV A t days p (um (rowOf (nP A.1.1 + 1) (fun _ => 0) 0 days x) p days)) (nP A.1.1) 0 0 (fun i _ hi => ?_), Nat.zero_add]
    · rfl
    · show _ = loyV _ _ _ _ _
      refine loyV_p (by omega) ht ?_ _ _
      refine cub_eqP ht p1 (by omega) days 0 _ _ (fun j h1 h2 => ?_) eqP.rf
      obtain ⟨a, ha, ea⟩ := rowOf_le (K := nP A.1.1 + 1) (p := 0) (m := days) (x := x) (i := j) (by omega) ⟨by omega, by omega⟩
      refine ⟨a, by omega, ea, ?_⟩
      have ul := um_lt (rowOf (nP A.1.1 + 1) (fun _ => 0) 0 days x) i days
      have := p2_le hd
      rw [bit_nI _ (by omega) j (by omega), um_bit _ _ _ _ (by omega), ea, decide_eq_decide]
      exact ⟨fun e => nI_inj8 a (by omega) i (by omega) e, fun e => by rw [e]⟩
  rw [nF, cw] at b1
  obtain ⟨z, z1, z2, z3⟩ := m_putBack X (d + 6) im lw tl iv2 lv2 (k := 16) (by omega)
  have w51 : iv2 51 = g := by rw [b2.row (by omega), a4 51 (by decide), upr_self]
  have w48 : iv2 48 = iv1 48 := b2.row (by omega)
  rw [w51] at z2
  rw [w48] at z3
  obtain ⟨eb1, eb2⟩ := eqS_back (e := A.1.1) a2 st (fun j hj => by rw [z2 j hj, g2 j hj, row_ux he hj]) z3
  rw [tr304, g1, bV_some, sg304_6, a1, sg304_9, if_pos (nI_le (by omega) (by omega)), b1, bI_some, sg304_116, z1, bV_some, sg304_124]
  have c : ∀ a, a ≠ 46 → a ≠ 48 → a ≠ 51 → (upr iv2 48 z) a = iv a := fun a h1 h2 h3 => by rw [upr_off _ _ _ h2, b2.row (by omega), a4 a (by simp [h2]), u a h3]
  have f : ∀ k, k ≠ 34 → k ≠ 38 → (upr iv2 48 z) 46 k = iv 46 k := fun k h1 h2 => by rw [upr_off _ _ _ (by decide), b2 46 k (by omega), a4 46 (by decide), u 46 (by decide)]
  refine ⟨_, lv2, rfl, ?_, ?_⟩
  · obtain ⟨y1, y2, y3, y4, y5, y6, y7, y8⟩ := h
    refine ⟨?_, ?_, ?_, ?_, ?_, ?_, ?_, y8.N b3⟩
    · rw [upr_self]; exact y1.sc eb1 (a3.tr eb2)
    · unfold imgsM; rw [c 49 (by decide) (by decide) (by decide), c 50 (by decide) (by decide) (by decide)]; exact y2
    · rw [f 13 (by decide) (by decide), c 55 (by decide) (by decide) (by decide)]; exact y3
    · refine ⟨by rw [f 8 (by decide) (by decide)]; exact y4.1, fun i e hi => ?_⟩
      have lu := ho.2.2.2.1.1
      have il := getE_lt hi
      have hh := y4.2 i e hi
      rw [c 52 (by decide) (by decide) (by decide)]
      refine ⟨hh.1, fun j hj => ?_⟩
      rw [upr_off _ _ _ (show 51 ≠ 48 by decide), w51, g3 _ (by omega)]
      exact hh.2 j hj
    · unfold drawnM; rw [f 58 (by decide) (by decide), f 59 (by decide) (by decide), c 78 (by decide) (by decide) (by decide)]; exact y5
    · unfold miscM; rw [f 18 (by decide) (by decide), f 54 (by decide) (by decide), f 11 (by decide) (by decide), f 1 (by decide) (by decide), c 47 (by decide) (by decide) (by decide)]; exact y6
    · rw [f 20 (by decide) (by decide)]; exact y7
  · intro a ha
    rw [c a (by omega) (by omega) (by omega)]
