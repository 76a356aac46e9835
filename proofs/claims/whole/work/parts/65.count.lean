/-! calls: drawn, count -/
def sp_drawn (k w : Int32) (A : St) : Int32 × St := (if inV w (nI 3) = true then (if hasV (A.2.2.2.2.1 (w.toNatClampNeg / 2)) k = true then A.2.2.2.2.1 ([5, 11, 27, 31].getD w.toNatClampNeg 0 + k.toNatClampNeg) else -1) else -1, A)
theorem D_np {D : Sc} (h : okS D) : ∃ n, n ≤ 6 ∧ D 0 = nI n := ⟨_, h.np.2, h.np.1⟩
theorem D_nt {D : Sc} (h : okS D) : ∃ n, n ≤ 4 ∧ D 1 = nI n := ⟨_, h.nt.2, h.nt.1⟩
theorem w_cases {w : Int32} (h : inV w (nI 3) = true) : w = nI 0 ∨ w = nI 1 ∨ w = nI 2 ∨ w = nI 3 := by
  obtain ⟨m, hm, rfl⟩ := inV_of (by decide) h
  have : m = 0 ∨ m = 1 ∨ m = 2 ∨ m = 3 := by omega
  rcases this with rfl | rfl | rfl | rfl <;> simp
theorem C_drawn (k w : Int32) : CSpec 187 [.inl k, .inl w] (sp_drawn k w) := by
  intro X hX d im lw tl iv lv A h ho
  show CR' im lw tl iv lv _ _
  have e := h.2.2.2.2.2.1
  obtain ⟨n, hn, n0⟩ := D_np ho.2.2.2.2
  obtain ⟨t, ht, t0⟩ := D_nt ho.2.2.2.2
  have e0 : iv 41 0 = nI n := (e 0 (by omega)).trans n0
  have e1 : iv 41 1 = nI t := (e 1 (by omega)).trans t0
  unfold sp_drawn
  rw [tr187]
  by_cases hw : inV w (nI 3) = true
  · rw [if_pos hw]
    rcases w_cases hw with rfl | rfl | rfl | rfl
    · rw [if_neg (by decide), c_hasP (sc40 im lw tl), bI_some, sg187_13, sg187_24, b2i_ite, e0, show (nI 0).toNatClampNeg / 2 = 0 by decide, n0]
      by_cases hk : hasV (nI n) k = true
      · rw [if_pos hk, if_pos hk, if_pos (by decide)]
        obtain ⟨m, hm, rfl⟩ := hasV_of (by omega) hk
        exact cq h (by rw [c_get0 (sc40 im lw tl) (by omega), bI_some, sg187_73, nI_clamp (by omega), e _ (by omega)]; rw [nI_clamp (show m < 2 ^ 31 by omega)]; rfl)
      · rw [if_neg hk, if_neg hk]
        exact cq h rfl
    · rw [if_neg (by decide), c_hasP (sc40 im lw tl), bI_some, sg187_13, sg187_24, b2i_ite, e0, show (nI 1).toNatClampNeg / 2 = 0 by decide, n0]
      by_cases hk : hasV (nI n) k = true
      · rw [if_pos hk, if_pos hk, if_neg (by decide), if_pos (by decide)]
        obtain ⟨m, hm, rfl⟩ := hasV_of (by omega) hk
        exact cq h (by rw [c_get0 (sc40 im lw tl) (by omega), bI_some, sg187_84, nI_clamp (by omega), e _ (by omega)]; rw [nI_clamp (show m < 2 ^ 31 by omega)]; rfl)
      · rw [if_neg hk, if_neg hk]
        exact cq h rfl
    · rw [if_pos (by decide), c_hasT (sc40 im lw tl), bI_some, sg187_24, b2i_ite, e1, show (nI 2).toNatClampNeg / 2 = 1 by decide, t0]
      by_cases hk : hasV (nI t) k = true
      · rw [if_pos hk, if_pos hk, if_neg (by decide), if_neg (by decide), if_pos (by decide)]
        obtain ⟨m, hm, rfl⟩ := hasV_of (by omega) hk
        exact cq h (by rw [c_get0 (sc40 im lw tl) (by omega), bI_some, sg187_95, nI_clamp (by omega), e _ (by omega)]; rw [nI_clamp (show m < 2 ^ 31 by omega)]; rfl)
      · rw [if_neg hk, if_neg hk]
        exact cq h rfl
    · rw [if_pos (by decide), c_hasT (sc40 im lw tl), bI_some, sg187_24, b2i_ite, e1, show (nI 3).toNatClampNeg / 2 = 1 by decide, t0]
      by_cases hk : hasV (nI t) k = true
      · rw [if_pos hk, if_pos hk, if_neg (by decide), if_neg (by decide), if_neg (by decide), if_pos (by decide)]
        obtain ⟨m, hm, rfl⟩ := hasV_of (by omega) hk
        exact cq h (by rw [c_get0 (sc40 im lw tl) (by omega), bI_some, sg187_106, nI_clamp (by omega), e _ (by omega)]; rw [nI_clamp (show m < 2 ^ 31 by omega)]; rfl)
      · rw [if_neg hk, if_neg hk]
        exact cq h rfl
  · rw [if_neg hw]
    have w0 : ¬ w.toInt = 0 := fun q => hw ((by rw [show w = nI 0 from (nI_is w (n := 0) (by decide)).mpr q]; decide))
    have w1 : ¬ w.toInt = 1 := fun q => hw ((by rw [show w = nI 1 from (nI_is w (n := 1) (by decide)).mpr q]; decide))
    have w2 : ¬ w.toInt = 2 := fun q => hw ((by rw [show w = nI 2 from (nI_is w (n := 2) (by decide)).mpr q]; decide))
    have w3 : ¬ w.toInt = 3 := fun q => hw ((by rw [show w = nI 3 from (nI_is w (n := 3) (by decide)).mpr q]; decide))
    refine cq h ?_
    by_cases c : nI 2 ≤ w
    · rw [if_pos c, c_hasT (sc40 im lw tl), bI_some, sg187_24, if_neg w0, if_neg w1, if_neg w2, if_neg w3]
      split <;> rfl
    · rw [if_neg c, c_hasP (sc40 im lw tl), bI_some, sg187_13, sg187_24, if_neg w0, if_neg w1, if_neg w2, if_neg w3]
      split <;> rfl
theorem m_dr {iv : Nat → Nat → Int32} {A : St} {lv : Nat → Nat → Int64} (h : RelM A iv lv) (ho : OKA A) : (∀ k : Int32, decide (lN 0 ≤ k.toInt64 ∧ k.toInt64 ≤ (iv 46 58).toInt64 - lN 1) = hasV (A.2.2.2.2.1 0) k) ∧ (∀ k : Int32, decide (lN 0 ≤ k.toInt64 ∧ k.toInt64 ≤ (iv 46 59).toInt64 - lN 1) = hasV (A.2.2.2.2.1 1) k) ∧ (∀ m, hasV (A.2.2.2.2.1 0) (nI m) = true ∨ hasV (A.2.2.2.2.1 1) (nI m) = true → m < 2 ^ 31 → ∀ j, j < 53 → iv 78 j = A.2.2.2.2.1 (ux j)) := by
  obtain ⟨n, hn, n0⟩ := D_np ho.2.2.2.2
  obtain ⟨t, ht, t0⟩ := D_nt ho.2.2.2.2
  rcases h.2.2.2.2.1 with ⟨a1, a2, a3, a4⟩ | ⟨a1, a2, a3⟩
  · rw [a1, a2, a3, a4]
    have e : ∀ k : Int32, decide (lN 0 ≤ k.toInt64 ∧ k.toInt64 ≤ (-1 : Int32).toInt64 - lN 1) = hasV (nI 0) k := by
      intro k
      unfold hasV
      refine decide_eq_decide.mpr ?_
      rw [fb_le64, fb_le64, fb_lt, fb_le, show ((-1 : Int32).toInt64 - lN 1).toInt = -2 by decide, Int32.toInt_toInt64, lN_toInt (by decide), nI_toInt (by decide), show (0 : Int32).toInt = 0 by decide]
      omega
    refine ⟨e, e, fun m h1 h2 => ?_⟩
    have : ¬ hasV (nI 0) (nI m) = true := fun q => by
      obtain ⟨j, hj, -⟩ := hasV_of (by decide) q
      omega
    exact absurd (h1.elim id id) this
  · rw [a1, a2, n0, t0]
    exact ⟨fun k => has_in k (by omega), fun k => has_in k (by omega), fun _ _ _ => a3⟩
theorem M_drawn (k w : Int32) : MSpec 318 [.inl k, .inl w] (sp_drawn k w) := by
  intro X d im lw tl iv lv A h ho
  show MR' im lw tl iv _ _
  have h0 := h.thr (nI 0)
  obtain ⟨n, hn, n0⟩ := D_np ho.2.2.2.2
  obtain ⟨t, ht, t0⟩ := D_nt ho.2.2.2.2
  obtain ⟨d1, d2, d3⟩ := m_dr h0 ho
  rw [tr318, m_in X (d + 38), bI_some, sg318_14, b2i_ite, in_inV w (top := 3) (by decide)]
  unfold sp_drawn
  by_cases hw : inV w (nI 3) = true
  · rw [if_pos hw, if_pos hw]
    rcases w_cases hw with rfl | rfl | rfl | rfl
    · rw [if_neg (by decide), m_in X (d + 38), bI_some, sg318_42, b2i_ite, d1, show (nI 0).toNatClampNeg / 2 = 0 by decide]
      by_cases hk : hasV (A.2.2.2.2.1 0) k = true
      · rw [if_pos hk, if_pos hk, if_pos (by decide)]
        have hk2 := hk
        rw [n0] at hk2
        obtain ⟨m, hm, rfl⟩ := hasV_of (by omega) hk2
        exact mq h (by rw [show nI 8 - nI 5 = nI 3 by decide, nI_add, if_pos (inb_nI (by omega) (by omega)), nI_clamp (by omega), nI_clamp (by omega), d3 m (Or.inl hk) (by omega) _ (by omega), ux, if_pos (by omega)]; rw [show 3 + m + 2 = 5 + m by omega]; rw [nI_clamp (show m < 2 ^ 31 by omega)]; rfl)
      · rw [if_neg hk, if_neg hk]
        exact mq h rfl
    · rw [if_neg (by decide), m_in X (d + 38), bI_some, sg318_42, b2i_ite, d1, show (nI 1).toNatClampNeg / 2 = 0 by decide]
      by_cases hk : hasV (A.2.2.2.2.1 0) k = true
      · rw [if_pos hk, if_pos hk, if_neg (by decide), if_pos (by decide)]
        have hk2 := hk
        rw [n0] at hk2
        obtain ⟨m, hm, rfl⟩ := hasV_of (by omega) hk2
        exact mq h (by rw [show nI 14 - nI 5 = nI 9 by decide, nI_add, if_pos (inb_nI (by omega) (by omega)), nI_clamp (by omega), nI_clamp (by omega), d3 m (Or.inl hk) (by omega) _ (by omega), ux, if_pos (by omega)]; rw [show 9 + m + 2 = 11 + m by omega]; rw [nI_clamp (show m < 2 ^ 31 by omega)]; rfl)
      · rw [if_neg hk, if_neg hk]
        exact mq h rfl
    · rw [if_pos (by decide), m_in X (d + 38), bI_some, sg318_42, b2i_ite, d2, show (nI 2).toNatClampNeg / 2 = 1 by decide]
      by_cases hk : hasV (A.2.2.2.2.1 1) k = true
      · rw [if_pos hk, if_pos hk, if_neg (by decide), if_neg (by decide), if_pos (by decide)]
        have hk2 := hk
        rw [t0] at hk2
        obtain ⟨m, hm, rfl⟩ := hasV_of (by omega) hk2
        exact mq h (by rw [show nI 26 - nI 5 = nI 21 by decide, nI_add, if_pos (inb_nI (by omega) (by omega)), nI_clamp (by omega), nI_clamp (by omega), d3 m (Or.inr hk) (by omega) _ (by omega), ux, if_neg (by omega)]; rw [show 21 + m + 6 = 27 + m by omega]; rw [nI_clamp (show m < 2 ^ 31 by omega)]; rfl)
      · rw [if_neg hk, if_neg hk]
        exact mq h rfl
    · rw [if_pos (by decide), m_in X (d + 38), bI_some, sg318_42, b2i_ite, d2, show (nI 3).toNatClampNeg / 2 = 1 by decide]
      by_cases hk : hasV (A.2.2.2.2.1 1) k = true
      · rw [if_pos hk, if_pos hk, if_neg (by decide), if_neg (by decide), if_neg (by decide)]
        have hk2 := hk
        rw [t0] at hk2
        obtain ⟨m, hm, rfl⟩ := hasV_of (by omega) hk2
        exact mq h (by rw [show nI 30 - nI 5 = nI 25 by decide, nI_add, if_pos (inb_nI (by omega) (by omega)), nI_clamp (by omega), nI_clamp (by omega), d3 m (Or.inr hk) (by omega) _ (by omega), ux, if_neg (by omega)]; rw [show 25 + m + 6 = 31 + m by omega]; rw [nI_clamp (show m < 2 ^ 31 by omega)]; rfl)
      · rw [if_neg hk, if_neg hk]
        exact mq h rfl
  · rw [if_neg hw, if_neg hw]
    exact mq h rfl
theorem S_drawn (k w : Int32) : stepOK 187 318 [.inl k, .inl w] := step_of (C_drawn k w) (M_drawn k w) (fun _ h => h)
theorem m_arms_loop (X : XE) (d : Nat) (im lw : List (Option Nat)) (tl : List XC) (iv : Nat → Nat → Int32) (lv : Nat → Nat → Int64) {f : Sc} (he : eqS f (fM (iv 48))) {n : Nat} (hn : n ≤ 4) (h0 : iv 48 1 = nI n) : ∀ (m q : Nat) (x : Int32), q + m = n → run X (call X xT d) false 1 xc320 4 [some (.inr (.inr (some 46))), some (.inl x), some (.inl (nI q))] [] (SS im lw tl, iv, lv) = some (some (.inl (armsV f m q x)), (SS im lw tl, iv, lv)) := by
  intro m
  induction m with
  | zero =>
    intro q x hq
    rw [sg320_4, h0, if_pos (nI_le (by omega) (by omega))]
    rfl
  | succ m ih =>
    intro q x hq
    have e : iv 48 (30 + q) = f (31 + q) := by rw [he (31 + q) (by omega), fM, mx_a (by omega)]
    rw [sg320_4, h0, if_neg (nI_ge (show q < n by omega) (by omega)), nI_add, if_pos (ib5k (by omega)), nI_clamp (by omega), e, nI_add, ih (q + 1) _ (by omega)]
    rfl
theorem armsV_eq {f g : Sc} (h : eqS f g) : ∀ (m q : Nat) (x : Int32), q + m ≤ 4 → armsV f m q x = armsV g m q x := by
  intro m
  induction m with
  | zero => intro q x _; rfl
  | succ m ih => intro q x hq; simp only [armsV]; rw [h (31 + q) (by omega), ih _ _ (by omega)]
/-- count -/
def cntV (n : Nat) (A : St) : Int32 := if n = 0 then A.1.1 0 else if n = 1 then A.1.1 1 else if n = 2 then armsV A.1.1 (nT A.1.1) 0 (nI 0) else if n = 3 then nI A.1.2.1.1 else if n = 4 then nI A.1.2.2.2.1.1 else if n = 5 then nI A.2.2.2.1.length else if n = 6 then nI A.2.2.1.1 else if n < 12 then A.2.2.2.2.2.2.2.2.2 (n - 7) else if n = 12 then A.1.2.2.2.2 else A.1.1 (2 + (n - 13))
def sp_count (x : Int32) (A : St) : Int32 × St := (if inV x (nI 15) = true then cntV x.toNatClampNeg A else -1, A)

theorem C_count (x : Int32) : CSpec 192 [.inl x] (sp_count x) := by
  intro X hX d im lw tl iv lv A h ho
  show CR' im lw tl iv lv _ _
  obtain ⟨p0, p1, t0, t1, hk⟩ := cfacts h ho
  have e := h.eq
  have hm := h.2.2.2.2.2.2.2.2.2.2
  obtain ⟨nx, l1, l2, l3, -⟩ := h.2.2.2.2.1
  unfold sp_count
  by_cases hx : inV x (nI 15) = true
  · rw [if_pos hx]
    obtain ⟨m, hm15, rfl⟩ := inV_of (by decide) hx
    have c : m = 0 ∨ m = 1 ∨ m = 2 ∨ m = 3 ∨ m = 4 ∨ m = 5 ∨ m = 6 ∨ m = 7 ∨ m = 8 ∨ m = 9 ∨ m = 10 ∨ m = 11 ∨ m = 12 ∨ m = 13 ∨ m = 14 ∨ m = 15 := by omega
    rw [nI_clamp (show m < 2 ^ 31 by omega)]
    rcases c with rfl | rfl | rfl | rfl | rfl | rfl | rfl | rfl | rfl | rfl | rfl | rfl | rfl | rfl | rfl | rfl
    · exact cq h (by rw [tr192, if_pos (by decide), if_pos (by decide)]; rw [c_prov0 (sc2 im lw tl), bI_some, sg192_118, e 0 (by omega)]; rfl)
    · exact cq h (by rw [tr192, if_pos (by decide), if_neg (by decide), if_pos (by decide)]; rw [c_tam0 (sc2 im lw tl), bI_some, sg192_129, e 1 (by omega)]; rfl)
    · exact cq h (by rw [tr192, if_pos (by decide), if_neg (by decide), if_neg (by decide), if_pos (by decide)]; rw [c_arms (sc2 im lw tl) t1 t0, bI_some, sg192_140, armsV_eq e _ _ _ (by omega)]; rfl)
    · exact cq h (by rw [tr192, if_pos (by decide), if_neg (by decide), if_neg (by decide), if_neg (by decide), if_pos (by decide)]; rw [tr158, bI_some, sg192_151, h.2.1.2.1]; rfl)
    · exact cq h (by rw [tr192, if_pos (by decide), if_neg (by decide), if_neg (by decide), if_neg (by decide), if_neg (by decide), if_pos (by decide)]; rw [h.2.1.2.2.2.2.1]; rfl)
    · exact cq h (by rw [tr192, if_pos (by decide), if_neg (by decide), if_neg (by decide), if_neg (by decide), if_neg (by decide), if_neg (by decide), if_pos (by decide)]; rw [tr194, bI_some, sg192_167, l3]; rfl)
    · exact cq h (by rw [tr192, if_pos (by decide), if_neg (by decide), if_neg (by decide), if_neg (by decide), if_neg (by decide), if_neg (by decide), if_neg (by decide), if_pos (by decide)]; rw [tr60, bI_some, sg192_175, h.2.2.2.1.1]; rfl)
    · exact cq h (by rw [tr192, if_neg (by decide), if_neg (by decide), show nI 7 - nI 7 = nI 0 by decide, if_pos (by decide), show (nI 0).toNatClampNeg = 0 by decide, hm 0 (by omega)]; rfl)
    · exact cq h (by rw [tr192, if_neg (by decide), if_neg (by decide), show nI 8 - nI 7 = nI 1 by decide, if_pos (by decide), show (nI 1).toNatClampNeg = 1 by decide, hm 1 (by omega)]; rfl)
    · exact cq h (by rw [tr192, if_neg (by decide), if_neg (by decide), show nI 9 - nI 7 = nI 2 by decide, if_pos (by decide), show (nI 2).toNatClampNeg = 2 by decide, hm 2 (by omega)]; rfl)
    · exact cq h (by rw [tr192, if_neg (by decide), if_neg (by decide), show nI 10 - nI 7 = nI 3 by decide, if_pos (by decide), show (nI 3).toNatClampNeg = 3 by decide, hm 3 (by omega)]; rfl)
    · exact cq h (by rw [tr192, if_neg (by decide), if_neg (by decide), show nI 11 - nI 7 = nI 4 by decide, if_pos (by decide), show (nI 4).toNatClampNeg = 4 by decide, hm 4 (by omega)]; rfl)
    · exact cq h (by rw [tr192, if_neg (by decide), if_pos (by decide), if_neg (by decide), if_neg (by decide), if_neg (by decide), if_neg (by decide), if_neg (by decide), if_neg (by decide), if_neg (by decide), if_neg (by decide), if_neg (by decide), if_neg (by decide), if_neg (by decide), if_neg (by decide), if_pos (by decide)]; rw [h.2.1.2.2.2.2.2.1]; rfl)
    · exact cq h (by rw [tr192, if_neg (by decide), if_pos (by decide), if_neg (by decide), if_neg (by decide), if_neg (by decide), if_neg (by decide), if_neg (by decide), if_neg (by decide), if_neg (by decide), if_neg (by decide), if_neg (by decide), if_neg (by decide), if_neg (by decide), if_neg (by decide), if_neg (by decide), if_pos (by decide)]; rw [show nI 13 - nI 13 = nI 0 by decide, c_get0 (sc2 im lw tl) (by omega), bI_some, sg192_199, e _ (by omega)]; rfl)
    · exact cq h (by rw [tr192, if_neg (by decide), if_pos (by decide), if_neg (by decide), if_neg (by decide), if_neg (by decide), if_neg (by decide), if_neg (by decide), if_neg (by decide), if_neg (by decide), if_neg (by decide), if_neg (by decide), if_neg (by decide), if_neg (by decide), if_neg (by decide), if_neg (by decide), if_neg (by decide), if_pos (by decide)]; rw [show nI 14 - nI 13 = nI 1 by decide, c_get0 (sc2 im lw tl) (by omega), bI_some, sg192_199, e _ (by omega)]; rfl)
    · exact cq h (by rw [tr192, if_neg (by decide), if_pos (by decide), if_neg (by decide), if_neg (by decide), if_neg (by decide), if_neg (by decide), if_neg (by decide), if_neg (by decide), if_neg (by decide), if_neg (by decide), if_neg (by decide), if_neg (by decide), if_neg (by decide), if_neg (by decide), if_neg (by decide), if_neg (by decide), if_neg (by decide), if_pos (by decide)]; rw [show nI 15 - nI 13 = nI 2 by decide, c_get0 (sc2 im lw tl) (by omega), bI_some, sg192_199, e _ (by omega)]; rfl)
  · rw [if_neg hx]
    have w : ∀ k : Nat, k ≤ 15 → ¬ x.toInt = (k : Int) := fun k hk q => hx (by rw [(nI_is x (n := k) (by omega)).mpr q]; exact inV_nI hk (by omega))
    refine cq h ?_
    rw [tr192]
    by_cases c : x < nI 7
    · rw [if_pos c, if_neg (show ¬ x.toInt = 0 from w 0 (by omega)), if_neg (show ¬ x.toInt = 1 from w 1 (by omega)), if_neg (show ¬ x.toInt = 2 from w 2 (by omega)), if_neg (show ¬ x.toInt = 3 from w 3 (by omega)), if_neg (show ¬ x.toInt = 4 from w 4 (by omega)), if_neg (show ¬ x.toInt = 5 from w 5 (by omega)), if_neg (show ¬ x.toInt = 6 from w 6 (by omega)), if_neg (show ¬ x.toInt = 7 from w 7 (by omega)), if_neg (show ¬ x.toInt = 8 from w 8 (by omega)), if_neg (show ¬ x.toInt = 9 from w 9 (by omega)), if_neg (show ¬ x.toInt = 10 from w 10 (by omega)), if_neg (show ¬ x.toInt = 11 from w 11 (by omega)), if_neg (show ¬ x.toInt = 12 from w 12 (by omega)), if_neg (show ¬ x.toInt = 13 from w 13 (by omega)), if_neg (show ¬ x.toInt = 14 from w 14 (by omega)), if_neg (show ¬ x.toInt = 15 from w 15 (by omega))]
    · rw [if_neg c]
      have c2 : nI 7 + nI 5 ≤ x := by
        have w7 := w 7 (by omega)
        have w8 := w 8 (by omega)
        have w9 := w 9 (by omega)
        have w10 := w 10 (by omega)
        have w11 := w 11 (by omega)
        rw [fb_lt, nI_toInt (by decide)] at c
        rw [nI_add, fb_le, nI_toInt (by decide)]
        omega
      rw [if_pos c2, if_neg (show ¬ x.toInt = 0 from w 0 (by omega)), if_neg (show ¬ x.toInt = 1 from w 1 (by omega)), if_neg (show ¬ x.toInt = 2 from w 2 (by omega)), if_neg (show ¬ x.toInt = 3 from w 3 (by omega)), if_neg (show ¬ x.toInt = 4 from w 4 (by omega)), if_neg (show ¬ x.toInt = 5 from w 5 (by omega)), if_neg (show ¬ x.toInt = 6 from w 6 (by omega)), if_neg (show ¬ x.toInt = 7 from w 7 (by omega)), if_neg (show ¬ x.toInt = 8 from w 8 (by omega)), if_neg (show ¬ x.toInt = 9 from w 9 (by omega)), if_neg (show ¬ x.toInt = 10 from w 10 (by omega)), if_neg (show ¬ x.toInt = 11 from w 11 (by omega)), if_neg (show ¬ x.toInt = 12 from w 12 (by omega)), if_neg (show ¬ x.toInt = 13 from w 13 (by omega)), if_neg (show ¬ x.toInt = 14 from w 14 (by omega)), if_neg (show ¬ x.toInt = 15 from w 15 (by omega))]
theorem M_count (x : Int32) : MSpec 319 [.inl x] (sp_count x) := by
  intro X d im lw tl iv lv A h ho
  show MR' im lw tl iv _ _
  obtain ⟨p0, p1, t0, t1, hk, he, hk2, h20⟩ := mfacts h ho
  obtain ⟨m1, m2, m3, m4, m5, m6, m7, m8, m9⟩ := h.2.2.2.2.2.1
  unfold sp_count
  by_cases hx : inV x (nI 15) = true
  · rw [if_pos hx]
    obtain ⟨m, hm15, rfl⟩ := inV_of (by decide) hx
    have c : m = 0 ∨ m = 1 ∨ m = 2 ∨ m = 3 ∨ m = 4 ∨ m = 5 ∨ m = 6 ∨ m = 7 ∨ m = 8 ∨ m = 9 ∨ m = 10 ∨ m = 11 ∨ m = 12 ∨ m = 13 ∨ m = 14 ∨ m = 15 := by omega
    rw [nI_clamp (show m < 2 ^ 31 by omega)]
    rcases c with rfl | rfl | rfl | rfl | rfl | rfl | rfl | rfl | rfl | rfl | rfl | rfl | rfl | rfl | rfl | rfl
    · exact mq h (by rw [tr319, if_pos (by decide)]; rw [show iv 48 0 = A.1.1 0 from (he 0 (by omega)).symm]; rfl)
    · exact mq h (by rw [tr319, if_neg (by decide), if_pos (by decide)]; rw [show iv 48 1 = A.1.1 1 from (he 1 (by omega)).symm]; rfl)
    · exact mq h (by rw [tr319, if_neg (by decide), if_neg (by decide), if_pos (by decide)]; rw [tr320, m_arms_loop X _ im lw tl _ lv (f := A.1.1) (by rw [up0 _ (by decide)]; exact he) t1 (by rw [up0 _ (by decide)]; exact t0) (nT A.1.1) 0 _ (by omega), bI_some, sg319_90]; rfl)
    · exact mq h (by rw [tr319, if_neg (by decide), if_neg (by decide), if_neg (by decide), if_pos (by decide)]; rw [h.1.2.1]; rfl)
    · exact mq h (by rw [tr319, if_neg (by decide), if_neg (by decide), if_neg (by decide), if_neg (by decide), if_pos (by decide)]; rw [h.1.2.2.2.2.1]; rfl)
    · exact mq h (by rw [tr319, if_neg (by decide), if_neg (by decide), if_neg (by decide), if_neg (by decide), if_neg (by decide), if_pos (by decide)]; rw [h.2.2.2.1.1]; rfl)
    · exact mq h (by rw [tr319, if_neg (by decide), if_neg (by decide), if_neg (by decide), if_neg (by decide), if_neg (by decide), if_neg (by decide), if_pos (by decide)]; rw [h.2.2.1.1]; rfl)
    · exact mq h (by rw [tr319, if_neg (by decide), if_neg (by decide), if_neg (by decide), if_neg (by decide), if_neg (by decide), if_neg (by decide), if_neg (by decide), if_pos (by decide)]; rw [m5]; rfl)
    · exact mq h (by rw [tr319, if_neg (by decide), if_neg (by decide), if_neg (by decide), if_neg (by decide), if_neg (by decide), if_neg (by decide), if_neg (by decide), if_neg (by decide), if_pos (by decide)]; rw [m6]; rfl)
    · exact mq h (by rw [tr319, if_neg (by decide), if_neg (by decide), if_neg (by decide), if_neg (by decide), if_neg (by decide), if_neg (by decide), if_neg (by decide), if_neg (by decide), if_neg (by decide), if_pos (by decide)]; rw [m7]; rfl)
    · exact mq h (by rw [tr319, if_neg (by decide), if_neg (by decide), if_neg (by decide), if_neg (by decide), if_neg (by decide), if_neg (by decide), if_neg (by decide), if_neg (by decide), if_neg (by decide), if_neg (by decide), if_pos (by decide)]; rw [m8]; rfl)
    · exact mq h (by rw [tr319, if_neg (by decide), if_neg (by decide), if_neg (by decide), if_neg (by decide), if_neg (by decide), if_neg (by decide), if_neg (by decide), if_neg (by decide), if_neg (by decide), if_neg (by decide), if_neg (by decide), if_pos (by decide)]; rw [m9]; rfl)
    · exact mq h (by rw [tr319, if_neg (by decide), if_neg (by decide), if_neg (by decide), if_neg (by decide), if_neg (by decide), if_neg (by decide), if_neg (by decide), if_neg (by decide), if_neg (by decide), if_neg (by decide), if_neg (by decide), if_neg (by decide), if_pos (by decide)]; rw [h.1.2.2.2.2.2.1]; rfl)
    · exact mq h (by rw [tr319, if_neg (by decide), if_neg (by decide), if_neg (by decide), if_neg (by decide), if_neg (by decide), if_neg (by decide), if_neg (by decide), if_neg (by decide), if_neg (by decide), if_neg (by decide), if_neg (by decide), if_neg (by decide), if_neg (by decide), m_in X (d + 38), bI_some, sg319_169, if_neg (by decide), show nI 5 + nI 13 - nI 13 = nI 5 by decide, if_pos (ib5k (by omega)), nI_clamp (by omega), up0 _ (by decide), show iv 48 5 = A.1.1 2 from (he 2 (by omega)).symm]; rfl)
    · exact mq h (by rw [tr319, if_neg (by decide), if_neg (by decide), if_neg (by decide), if_neg (by decide), if_neg (by decide), if_neg (by decide), if_neg (by decide), if_neg (by decide), if_neg (by decide), if_neg (by decide), if_neg (by decide), if_neg (by decide), if_neg (by decide), m_in X (d + 38), bI_some, sg319_169, if_neg (by decide), show nI 5 + nI 14 - nI 13 = nI 6 by decide, if_pos (ib5k (by omega)), nI_clamp (by omega), up0 _ (by decide), show iv 48 6 = A.1.1 3 from (he 3 (by omega)).symm]; rfl)
    · exact mq h (by rw [tr319, if_neg (by decide), if_neg (by decide), if_neg (by decide), if_neg (by decide), if_neg (by decide), if_neg (by decide), if_neg (by decide), if_neg (by decide), if_neg (by decide), if_neg (by decide), if_neg (by decide), if_neg (by decide), if_neg (by decide), m_in X (d + 38), bI_some, sg319_169, if_neg (by decide), show nI 5 + nI 15 - nI 13 = nI 7 by decide, if_pos (ib5k (by omega)), nI_clamp (by omega), up0 _ (by decide), show iv 48 7 = A.1.1 4 from (he 4 (by omega)).symm]; rfl)
  · rw [if_neg hx]
    have w : ∀ k : Nat, k ≤ 15 → ¬ x.toInt = (k : Int) := fun k hk q => hx (by rw [(nI_is x (n := k) (by omega)).mpr q]; exact inV_nI hk (by omega))
    refine mq h ?_
    rw [tr319, if_neg (show ¬ x.toInt = 0 from w 0 (by omega)), if_neg (show ¬ x.toInt = 1 from w 1 (by omega)), if_neg (show ¬ x.toInt = 2 from w 2 (by omega)), if_neg (show ¬ x.toInt = 3 from w 3 (by omega)), if_neg (show ¬ x.toInt = 4 from w 4 (by omega)), if_neg (show ¬ x.toInt = 5 from w 5 (by omega)), if_neg (show ¬ x.toInt = 6 from w 6 (by omega)), if_neg (show ¬ x.toInt = 7 from w 7 (by omega)), if_neg (show ¬ x.toInt = 8 from w 8 (by omega)), if_neg (show ¬ x.toInt = 9 from w 9 (by omega)), if_neg (show ¬ x.toInt = 10 from w 10 (by omega)), if_neg (show ¬ x.toInt = 11 from w 11 (by omega)), if_neg (show ¬ x.toInt = 12 from w 12 (by omega)), m_in X (d + 38), bI_some, sg319_169, decide_eq_false (fun q => ?_)]
    · rfl
    · rw [fb_le64, fb_le64, Int32.toInt_toInt64, lN_toInt (by decide), lN_toInt (by decide)] at q
      have w13 := w 13 (by omega)
      have w14 := w 14 (by omega)
      have w15 := w 15 (by omega)
      omega
theorem S_count (x : Int32) : stepOK 192 319 [.inl x] := step_of (C_count x) (M_count x) (fun _ h => h)
