/-! calls: feed, feud, drawn, count -/
/-- four bytes behind a tape -/
def addB (T : Nat × Sc) (x : Int32) : Nat × Sc := (T.1 + 4, pu (pu (pu (pu T.2 T.1 (byt x 24)) (T.1 + 1) (byt x 16)) (T.1 + 2) (byt x 8)) (T.1 + 3) (byt x 0))
theorem c_add_step (X : XE) (cl : XCl) (im lw : List (Option Nat)) (tl : List XC) (iv : Nat → Nat → Int32) (lv : Nat → Nat → Int64) (x : Int32) {n : Nat} (hn : n < 400) (h9 : iv 9 1 = nI n) {s : Nat} (hs : s = 0 ∨ s = 8 ∨ s = 16 ∨ s = 24) : run X cl false 0 xc59 3 [some (.inr (.inr (some 9))), some (.inl x), some (.inl (nI s))] [] (SS im lw tl, iv, lv) = run X cl false 0 xc59 3 [some (.inr (.inr (some 9))), some (.inl x), some (.inl (nI s + (-8)))] [] (SS im lw tl, upd2 (upd2 iv 10 n (byt x s)) 9 1 (nI (n + 1)), lv) := by
  rw [sg59_3, if_neg (nI_pos (by omega)), h9, if_neg (nI_ge hn (by omega)), if_pos (inb_nI hn (by omega)), nI_clamp (by omega), nI_add, byt_u x hs]
theorem m_add_step (X : XE) (cl : XCl) (im lw : List (Option Nat)) (tl : List XC) (iv : Nat → Nat → Int32) (lv : Nat → Nat → Int64) (x : Int32) {n : Nat} (hn : n < 400) (h9 : iv 46 13 = nI n) {s : Nat} (hs : s = 0 ∨ s = 8 ∨ s = 16 ∨ s = 24) : run X cl false 0 xc232 3 [some (.inr (.inr (some 46))), some (.inl x), some (.inl (nI s))] [] (SS im lw tl, iv, lv) = run X cl false 0 xc232 3 [some (.inr (.inr (some 46))), some (.inl x), some (.inl (nI s + (-8)))] [] (SS im lw tl, upd2 (upd2 iv 55 n (byt x s)) 46 13 (nI (n + 1)), lv) := by
  rw [sg232_3, if_neg (nI_pos (by omega)), h9, if_pos (inb_nI hn (by omega)), nI_clamp (by omega), nI_add]
  rfl
theorem s24 : nI 24 + (-8) = nI 16 := by decide
theorem s16 : nI 16 + (-8) = nI 8 := by decide
theorem s8 : nI 8 + (-8) = nI 0 := by decide
theorem s0 : nI 0 + (-8) < (0 : Int32) := by decide
theorem c_add (X : XE) (d : Nat) (im lw : List (Option Nat)) (tl : List XC) (iv : Nat → Nat → Int32) (lv : Nat → Nat → Int64) (x : Int32) {T : Nat × Sc} (hn : T.1 + 4 ≤ 400) (ht : iv 9 1 = nI T.1 ∧ ∀ j, j < T.1 → iv 10 j = T.2 j) : ∃ iv', call X xT (d + 1) 59 [.inr (.inr (some 9)), .inl x] (SS im lw tl, iv, lv) = some (none, (SS im lw tl, iv', lv)) ∧ (iv' 9 1 = nI (addB T x).1 ∧ ∀ j, j < (addB T x).1 → iv' 10 j = (addB T x).2 j) ∧ fr [9, 10] iv iv' := by
  rw [tr59, c_add_step X _ im lw tl iv lv x (n := T.1) (by omega) ht.1 (by omega), s24, c_add_step X _ im lw tl _ lv x (n := T.1 + 1) (by omega) (by rw [upd2_self]) (by omega), s16, c_add_step X _ im lw tl _ lv x (n := T.1 + 2) (by omega) (by rw [upd2_self]) (by omega), s8, c_add_step X _ im lw tl _ lv x (n := T.1 + 3) (by omega) (by rw [upd2_self]) (by omega), sg59_3, if_pos s0]
  refine ⟨_, rfl, ⟨by rw [upd2_self]; rfl, fun j hj => ?_⟩, fun a ha => ?_⟩
  · have hj : j < T.1 + 4 := hj
    show _ = pu (pu (pu (pu T.2 T.1 (byt x 24)) (T.1 + 1) (byt x 16)) (T.1 + 2) (byt x 8)) (T.1 + 3) (byt x 0) j
    rw [upd2_off _ _ _ _ (show 10 ≠ 9 by decide), upd2_rw, upd2_off _ _ _ _ (show 10 ≠ 9 by decide), upd2_rw, upd2_off _ _ _ _ (show 10 ≠ 9 by decide), upd2_rw, upd2_off _ _ _ _ (show 10 ≠ 9 by decide), upd2_rw]
    simp only [pu]
    by_cases c : j < T.1
    · rw [ht.2 j c]
    · have : j = T.1 ∨ j = T.1 + 1 ∨ j = T.1 + 2 ∨ j = T.1 + 3 := by omega
      rcases this with rfl | rfl | rfl | rfl <;> simp
  · simp at ha
    rw [upd2_off _ _ _ _ ha.1, upd2_off _ _ _ _ ha.2, upd2_off _ _ _ _ ha.1, upd2_off _ _ _ _ ha.2, upd2_off _ _ _ _ ha.1, upd2_off _ _ _ _ ha.2, upd2_off _ _ _ _ ha.1, upd2_off _ _ _ _ ha.2]
/-- the tape's fields of the reference alone -/
def frT (iv iv' : Nat → Nat → Int32) : Prop := ∀ a k, a ≠ 55 → ¬ (a = 46 ∧ k = 13) → iv' a k = iv a k
theorem frT.tr {a b c : Nat → Nat → Int32} (h : frT a b) (h2 : frT b c) : frT a c := fun x k h3 h4 => (h2 x k h3 h4).trans (h x k h3 h4)
theorem m_add (X : XE) (d : Nat) (im lw : List (Option Nat)) (tl : List XC) (iv : Nat → Nat → Int32) (lv : Nat → Nat → Int64) (x : Int32) {T : Nat × Sc} (hn : T.1 + 4 ≤ 400) (ht : iv 46 13 = nI T.1 ∧ ∀ j, j < T.1 → iv 55 j = T.2 j) : ∃ iv', call X xT (d + 1) 232 [.inr (.inr (some 46)), .inl x] (SS im lw tl, iv, lv) = some (none, (SS im lw tl, iv', lv)) ∧ (iv' 46 13 = nI (addB T x).1 ∧ ∀ j, j < (addB T x).1 → iv' 55 j = (addB T x).2 j) ∧ frT iv iv' := by
  rw [tr232, m_add_step X _ im lw tl iv lv x (n := T.1) (by omega) ht.1 (by omega), s24, m_add_step X _ im lw tl _ lv x (n := T.1 + 1) (by omega) (by rw [upd2_self]) (by omega), s16, m_add_step X _ im lw tl _ lv x (n := T.1 + 2) (by omega) (by rw [upd2_self]) (by omega), s8, m_add_step X _ im lw tl _ lv x (n := T.1 + 3) (by omega) (by rw [upd2_self]) (by omega), sg232_3, if_pos s0]
  refine ⟨_, rfl, ⟨by rw [upd2_self]; rfl, fun j hj => ?_⟩, fun a k ha hk => ?_⟩
  · have hj : j < T.1 + 4 := hj
    show _ = pu (pu (pu (pu T.2 T.1 (byt x 24)) (T.1 + 1) (byt x 16)) (T.1 + 2) (byt x 8)) (T.1 + 3) (byt x 0) j
    rw [upd2_off _ _ _ _ (show 55 ≠ 46 by decide), upd2_rw, upd2_off _ _ _ _ (show 55 ≠ 46 by decide), upd2_rw, upd2_off _ _ _ _ (show 55 ≠ 46 by decide), upd2_rw, upd2_off _ _ _ _ (show 55 ≠ 46 by decide), upd2_rw]
    simp only [pu]
    by_cases c : j < T.1
    · rw [ht.2 j c]
    · have : j = T.1 ∨ j = T.1 + 1 ∨ j = T.1 + 2 ∨ j = T.1 + 3 := by omega
      rcases this with rfl | rfl | rfl | rfl <;> simp
  · rw [upd2_ne _ _ _ _ hk, upd2_off _ _ _ _ ha, upd2_ne _ _ _ _ hk, upd2_off _ _ _ _ ha, upd2_ne _ _ _ _ hk, upd2_off _ _ _ _ ha, upd2_ne _ _ _ _ hk, upd2_off _ _ _ _ ha]
def add5 (T : Nat × Sc) (a b c d e : Int32) : Nat × Sc := addB (addB (addB (addB (addB T a) b) c) d) e
def sp_feed (a b c d e : Int32) (A : St) : Int32 × St := if A.2.2.1.1 + 20 ≤ 400 then (nI (A.2.2.1.1 + 20), stT A (add5 A.2.2.1 a b c d e)) else (-1, A)
theorem C_feed (a b c e f : Int32) : CSpec 57 [.inl a, .inl b, .inl c, .inl e, .inl f] (sp_feed a b c e f) := by
  intro X hX d im lw tl iv lv A h ho
  show CR' im lw tl iv lv _ _
  have h9 := h.2.2.2.1
  have ht := ho.2.2.1.1
  unfold sp_feed
  rw [tr57, tr58, h9.1, nI_add]
  by_cases hr : A.2.2.1.1 + 20 ≤ 400
  · rw [if_pos hr, if_neg (nI_nlt hr (by omega)), bI_some, sg57_9, if_neg nI1_ne0]
    have l1 : (addB A.2.2.1 a).1 = A.2.2.1.1 + 4 := rfl
    have l2 : (addB (addB A.2.2.1 a) b).1 = A.2.2.1.1 + 8 := rfl
    have l3 : (addB (addB (addB A.2.2.1 a) b) c).1 = A.2.2.1.1 + 12 := rfl
    have l4 : (addB (addB (addB (addB A.2.2.1 a) b) c) e).1 = A.2.2.1.1 + 16 := rfl
    have l5 : (addB (addB (addB (addB (addB A.2.2.1 a) b) c) e) f).1 = A.2.2.1.1 + 20 := rfl
    obtain ⟨iv1, a1, a2, a3⟩ := c_add X (d + 38) im lw tl iv lv a (by omega) h9
    obtain ⟨iv2, b1, b2, b3⟩ := c_add X (d + 38) im lw tl iv1 lv b (by omega) a2
    obtain ⟨iv3, c1, c2, c3⟩ := c_add X (d + 38) im lw tl iv2 lv c (by omega) b2
    obtain ⟨iv4, d1, d2, d3⟩ := c_add X (d + 38) im lw tl iv3 lv e (by omega) c2
    obtain ⟨iv5, e1, e2, e3⟩ := c_add X (d + 38) im lw tl iv4 lv f (by omega) d2
    have fr5 : fr [9, 10] iv iv5 := (((a3.tr b3).tr c3).tr d3).tr e3
    rw [a1, bV_some, sg57_22, b1, bV_some, sg57_30, c1, bV_some, sg57_38, d1, bV_some, sg57_47, e1, bV_some, sg57_56, tr60, bI_some, sg57_63, e2.1, l5]
    exact ⟨iv5, lv, rfl, h.tp (T := add5 A.2.2.1 a b c e f) e2 (fun x h1 h2 => fr5 x (by simp [h1, h2])), fr5.mid (by intro x hx; simp at hx; omega), midL.rf⟩
  · rw [if_neg hr, if_pos (nI_lt (by omega) (by omega)), bI_some, sg57_9, if_pos nI0_eq0]
    exact cq h rfl
theorem M_feed (a b c e f : Int32) : MSpec 231 [.inl a, .inl b, .inl c, .inl e, .inl f] (sp_feed a b c e f) := by
  intro X d im lw tl iv lv A h ho
  show MR' im lw tl iv _ _
  have h0 := h.thr (nI 0)
  have h9 := h0.2.2.1
  have ht := ho.2.2.1.1
  unfold sp_feed
  rw [tr231, h.2.2.1.1, nI_add]
  by_cases hr : A.2.2.1.1 + 20 ≤ 400
  · rw [if_pos hr, if_pos (nI_le hr (by omega))]
    have l1 : (addB A.2.2.1 a).1 = A.2.2.1.1 + 4 := rfl
    have l2 : (addB (addB A.2.2.1 a) b).1 = A.2.2.1.1 + 8 := rfl
    have l3 : (addB (addB (addB A.2.2.1 a) b) c).1 = A.2.2.1.1 + 12 := rfl
    have l4 : (addB (addB (addB (addB A.2.2.1 a) b) c) e).1 = A.2.2.1.1 + 16 := rfl
    have l5 : (addB (addB (addB (addB (addB A.2.2.1 a) b) c) e) f).1 = A.2.2.1.1 + 20 := rfl
    obtain ⟨iv1, a1, a2, a3⟩ := m_add X (d + 38) im lw tl _ lv a (by omega) h9
    obtain ⟨iv2, b1, b2, b3⟩ := m_add X (d + 38) im lw tl iv1 lv b (by omega) a2
    obtain ⟨iv3, c1, c2, c3⟩ := m_add X (d + 38) im lw tl iv2 lv c (by omega) b2
    obtain ⟨iv4, d1, d2, d3⟩ := m_add X (d + 38) im lw tl iv3 lv e (by omega) c2
    obtain ⟨iv5, e1, e2, e3⟩ := m_add X (d + 38) im lw tl iv4 lv f (by omega) d2
    have fr5 : frT (upd2 iv 46 0 (nI 0)) iv5 := (((a3.tr b3).tr c3).tr d3).tr e3
    rw [a1, bV_some, sg231_25, b1, bV_some, sg231_30, c1, bV_some, sg231_35, d1, bV_some, sg231_41, e1, bV_some, sg231_47, e2.1, l5]
    refine ⟨iv5, lv, rfl, h0.tp (T := add5 A.2.2.1 a b c e f) e2 (fun x k q => fr5 x k (by rcases q with q | ⟨q, r⟩ <;> simp at * <;> omega) (by rcases q with q | ⟨q, r⟩ <;> simp at * <;> omega)) h0.c, (out0 iv).tr (fun x hx => ?_)⟩
    funext k
    exact fr5 x k (by omega) (by omega)
  · rw [if_neg hr, if_neg (nI_ge (by omega) (by omega))]
    exact mq h rfl
theorem byt_lt (x : Int32) (s : Nat) : ∃ b, b < 256 ∧ byt x s = nI b := by
  unfold byt
  rw [pk_and _ (m := nI 255) 8 (by decide)]
  exact ⟨_, Nat.mod_lt _ (by decide), rfl⟩
theorem okT_add {T : Nat × Sc} (h : okT T) (hn : T.1 + 4 ≤ 400) (x : Int32) : okT (addB T x) := by
  refine ⟨hn, fun j hj => ?_⟩
  have hj : j < T.1 + 4 := hj
  show ∃ b, b < 256 ∧ pu (pu (pu (pu T.2 T.1 (byt x 24)) (T.1 + 1) (byt x 16)) (T.1 + 2) (byt x 8)) (T.1 + 3) (byt x 0) j = nI b
  by_cases c : j < T.1
  · rw [pu_n _ _ _ (by omega), pu_n _ _ _ (by omega), pu_n _ _ _ (by omega), pu_n _ _ _ (by omega)]
    exact h.2 j c
  · have : j = T.1 ∨ j = T.1 + 1 ∨ j = T.1 + 2 ∨ j = T.1 + 3 := by omega
    rcases this with rfl | rfl | rfl | rfl <;> simp only [pu] <;> simp <;> exact byt_lt x _
theorem S_feed (a b c e f : Int32) : stepOK 57 231 [.inl a, .inl b, .inl c, .inl e, .inl f] := by
  refine step_of (C_feed a b c e f) (M_feed a b c e f) ?_
  intro A h
  unfold sp_feed
  split
  · rename_i hr
    obtain ⟨a1, a2, a3, a4, a5⟩ := h
    have l1 : (addB A.2.2.1 a).1 = A.2.2.1.1 + 4 := rfl
    have l2 : (addB (addB A.2.2.1 a) b).1 = A.2.2.1.1 + 8 := rfl
    have l3 : (addB (addB (addB A.2.2.1 a) b) c).1 = A.2.2.1.1 + 12 := rfl
    have l4 : (addB (addB (addB (addB A.2.2.1 a) b) c) e).1 = A.2.2.1.1 + 16 := rfl
    exact ⟨a1, a2, okT_add (okT_add (okT_add (okT_add (okT_add a3 (by omega) a) (by omega) b) (by omega) c) (by omega) e) (by omega) f, a4, a5⟩
  · exact h
/-- feud -/
def fset (m q i : Nat) : Nat := m % 2 ^ q + i * 2 ^ q + m / 2 ^ (q + 1) * 2 ^ (q + 1)
theorem fd_c : ∀ m, m < 64 → ∀ q, q < 6 → ∀ i, i < 2 → (nI m &&& ((nI 1 <<< (nI q &&& 31)) ^^^ (-1))) ||| (nI i <<< (nI q &&& 31)) = nI (fset m q i) := by decide +kernel
theorem fd_m : ∀ m, m < 64 → ∀ q, q < 6 → ∀ i, i < 2 → (nI m ^^^ (if (nI m >>> (nI q &&& 31)) &&& nI 1 = nI i then nI 0 else nI 1 <<< (nI q &&& 31))) = nI (fset m q i) := by decide +kernel
theorem fd_b : ∀ m, m < 64 → ∀ q, q < 6 → (nI m >>> (nI q &&& 31)) &&& nI 1 = nI (if m.testBit q = true then 1 else 0) := by decide +kernel
theorem fd_l : ∀ m, m < 64 → ∀ q, q < 6 → ∀ i, i < 2 → fset m q i < 64 := by decide +kernel
theorem fd_t : ∀ m, m < 64 → ∀ q, q < 6 → ∀ i, i < 2 → ∀ j, j < 6 → (fset m q i).testBit j = if j = q then decide (i = 1) else m.testBit j := by decide +kernel
def stE (A : St) (fe : Sc) : St := ((A.1.1, A.1.2.1, fe, A.1.2.2.2), A.2)
/-- a feud's two rows -/
def fdF (fe : Sc) (p q i : Nat) : Sc := pu (pu fe p (nI (fset (fe p).toNatClampNeg q i))) q (nI (fset (fe q).toNatClampNeg p i))
def sp_feud (x y i : Int32) (A : St) : Int32 × St := if x = y then rfs 0 A else if inV i (nI 1) = true then (if (hasV (nI (nP A.1.1)) x && hasV (nI (nP A.1.1)) y) = true then (nI (if (A.1.2.2.1 x.toNatClampNeg).toNatClampNeg.testBit y.toNatClampNeg = true then 1 else 0), stS (stE A (fdF A.1.2.2.1 x.toNatClampNeg y.toNatClampNeg i.toNatClampNeg)) (nI 0)) else rfs 1 A) else rfs 0 A
theorem C_feud (x y i : Int32) : CSpec 54 [.inl x, .inl y, .inl i] (sp_feud x y i) := by
  intro X hX d im lw tl iv lv A h ho
  show CR' im lw tl iv lv _ _
  obtain ⟨p0, p1, t0, t1, hk⟩ := cfacts h ho
  rw [tr54]
  unfold sp_feud
  by_cases hxy : x = y
  · rw [if_pos hxy, if_pos hxy]
    exact crf h (i := 0) (by decide) (by rw [c_rf0 hX, bI_some, sg54_18])
  rw [if_neg hxy, if_neg hxy, c_within X (d + 38), bI_some, sg54_10, b2i_ite]
  by_cases hi : inV i (nI 1) = true
  · rw [if_pos hi, if_pos hi, c_hasP (sc2 im lw tl), bI_some, sg54_30, b2i_ite, p0]
    cases hx : hasV (nI (nP A.1.1)) x
    · rw [if_neg (by decide), Bool.false_and, if_neg (by decide)]
      exact crf h (i := 1) (by decide) (by rw [c_rf1 hX, bI_some, sg54_53])
    rw [if_pos rfl, Bool.true_and, c_hasP (sc2 im lw tl), bI_some, sg54_44, b2i_ite, p0]
    by_cases hy : hasV (nI (nP A.1.1)) y = true
    · rw [if_pos hy, if_pos hy]
      obtain ⟨p, hp, rfl⟩ := hasV_of (by omega) hx
      obtain ⟨q, hq, rfl⟩ := hasV_of (by omega) hy
      obtain ⟨k, hk, rfl⟩ := inV_of (by decide) hi
      have hpq : p ≠ q := fun e => hxy (by rw [e])
      obtain ⟨q1, q2, q3, q4, q5, q6, q7⟩ := h.2.1
      obtain ⟨m, m1, m2⟩ := ho.1.2.2.1
      have mp := m1 p (by omega)
      have mq := m1 q (by omega)
      have ep : iv 6 p = nI (m p) := (q4 p (by omega)).trans mp.1
      have eq_ : iv 6 q = nI (m q) := (q4 q (by omega)).trans mq.1
      rw [nI_clamp (show p < 2 ^ 31 by omega), nI_clamp (show q < 2 ^ 31 by omega), nI_clamp (show k < 2 ^ 31 by omega), mp.1, nI_clamp (show m p < 2 ^ 31 by omega)]
      rw [tr55, if_neg (nI_pos (by omega)), if_neg (nI_ge (show p < 6 by omega) (by omega)), if_neg (nI_pos (by omega)), if_pos (nI_lt (show q < 6 by omega) (by omega)), if_pos (inb_nI (by omega) (by omega)), if_pos (inb_nI (by omega) (by omega)), if_pos (inb_nI (by omega) (by omega)), if_pos (inb_nI (by omega) (by omega)), if_pos (inb_nI (by omega) (by omega)), bI_some, sg54_65, tr22, bI_some, sg54_68, nI_clamp (by omega), nI_clamp (by omega), ep, fd_c _ mp.2.1 q (by omega) k (by omega), upd2_ne _ _ _ _ (show ¬ (6 = 6 ∧ q = p) by omega), eq_, fd_c _ mq.2.1 p (by omega) k (by omega), fd_b _ mp.2.1 q (by omega)]
      have e : ∀ a, a ≠ 6 → (upd2 (upd2 iv 6 p (nI (fset (m p) q k))) 6 q (nI (fset (m q) p k))) a = iv a := fun a ha => by rw [upd2_off _ _ _ _ ha, upd2_off _ _ _ _ ha]
      refine ⟨_, lv, rfl, RelC.st (h.wd (W := (A.1.1, A.1.2.1, fdF A.1.2.2.1 p q k, A.1.2.2.2)) ⟨?_, ?_, ?_, ?_, ?_, ?_, ?_⟩ (fun x _ _ _ _ h5 => e x h5)) _, ?_, midL.rf⟩
      · rw [e 3 (by decide)]; exact q1
      · rw [e 4 (by decide)]; exact q2
      · rw [e 5 (by decide)]; exact q3
      · intro j hj
        rw [upd2_rw, upd2_rw]
        show _ = fdF A.1.2.2.1 p q k j
        unfold fdF
        rw [mp.1, mq.1, nI_clamp (show m p < 2 ^ 31 by omega), nI_clamp (show m q < 2 ^ 31 by omega)]
        simp only [pu]
        rw [q4 j hj]
      · rw [e 1 (by decide)]; exact q5
      · rw [e 1 (by decide)]; exact q6
      · intro n hn
        obtain ⟨r, w1, w2, w3⟩ := q7 n hn
        exact ⟨r, w1, w2, w3.mo (Nat.le_refl _) (fun _ _ h => h) (fun x _ hx => ⟨rfl, e x (by have := hx.1; omega)⟩)⟩
      · exact ((mid_upd _ _ _ (by decide)).tr (mid_upd _ _ _ (by decide))).tr (mid_upd _ _ _ (by decide))
    · rw [if_neg hy, if_neg hy]
      exact crf h (i := 1) (by decide) (by rw [c_rf1 hX, bI_some, sg54_53])
  · rw [if_neg hi, if_neg hi]
    exact crf h (i := 0) (by decide) (by rw [c_rf0 hX, bI_some, sg54_18])
theorem M_feud (x y i : Int32) : MSpec 226 [.inl x, .inl y, .inl i] (sp_feud x y i) := by
  intro X d im lw tl iv lv A h ho
  show MR' im lw tl iv _ _
  have h0 := h.thr (nI 0)
  obtain ⟨p0, p1, t0, t1, hk, he, hk2, h20⟩ := mfacts h0 ho
  rw [tr226]
  generalize hg : upd2 iv 46 0 (nI 0) = ivz at h0 p0 t0 he hk2 h20
  have o0 : outI iv ivz := hg ▸ out0 iv
  unfold sp_feud
  by_cases hxy : x = y
  · rw [if_pos hxy, if_pos hxy]
    exact mrf h0 o0 (i := 0) (by decide) (by rw [m_rf0, bI_some, sg226_25])
  rw [if_neg hxy, if_neg hxy, m_in X (d + 38), bI_some, sg226_17, b2i_ite, in_inV i (top := 1) (by decide)]
  by_cases hi : inV i (nI 1) = true
  · rw [if_pos hi, if_pos hi, m_isP X (d + 37) im lw tl _ lv p1 p0, bI_some, sg226_31, b2i_ite]
    cases hx : hasV (nI (nP A.1.1)) x
    · rw [if_neg (by decide), Bool.false_and, if_neg (by decide)]
      exact mrf h0 o0 (i := 1) (by decide) (by rw [m_rf1, bI_some, sg226_48])
    rw [if_pos rfl, Bool.true_and, m_isP X (d + 37) im lw tl _ lv p1 p0, bI_some, sg226_39, b2i_ite]
    by_cases hy : hasV (nI (nP A.1.1)) y = true
    · rw [if_pos hy, if_pos hy]
      obtain ⟨p, hp, rfl⟩ := hasV_of (by omega) hx
      obtain ⟨q, hq, rfl⟩ := hasV_of (by omega) hy
      obtain ⟨k, hk, rfl⟩ := inV_of (by decide) hi
      have hpq : p ≠ q := fun e => hxy (by rw [e])
      obtain ⟨q1, q2, q3, q4, q5, q6, q7⟩ := h0.1
      obtain ⟨m, m1, m2⟩ := ho.1.2.2.1
      have mp := m1 p (by omega)
      have mq := m1 q (by omega)
      have ep : ivz 48 (62 + p) = nI (m p) := (q4 p (by omega)).trans mp.1
      have eq_ : ivz 48 (62 + q) = nI (m q) := (q4 q (by omega)).trans mq.1
      have i1 : inb (nI (62 + p)) 5510 = true := ib5k (by omega)
      have i2 : inb (nI (62 + q)) 5510 = true := ib5k (by omega)
      have c1 : (nI (62 + p)).toNatClampNeg = 62 + p := nI_clamp (by omega)
      have c2 : (nI (62 + q)).toNatClampNeg = 62 + q := nI_clamp (by omega)
      have n1 : ∀ v : Int32, (upd2 ivz 48 (62 + p) v) 48 (62 + q) = nI (m q) := fun v => by rw [upd2_ne _ _ _ _ (by omega)]; exact eq_
      have f1 := fd_m _ mp.2.1 q (by omega) k (by omega)
      have f2 := fd_m _ mq.2.1 p (by omega) k (by omega)
      have sy : (nI (m q) >>> (nI p &&& 31)) &&& nI 1 = (nI (m p) >>> (nI q &&& 31)) &&& nI 1 := by rw [fd_b _ mp.2.1 q (by omega), fd_b _ mq.2.1 p (by omega), m2 p q (by omega) (by omega)]
      rw [sy] at f2
      simp only [nI_add, i1, i2, c1, c2, if_true, ep, n1]
      rw [nI_clamp (show p < 2 ^ 31 by omega), nI_clamp (show q < 2 ^ 31 by omega), nI_clamp (show k < 2 ^ 31 by omega), mp.1, nI_clamp (show m p < 2 ^ 31 by omega)]
      have fin : ∀ r, r = some (some (.inl ((nI (m p) >>> (nI q &&& 31)) &&& nI 1)), (SS im lw tl, upd2 (upd2 (upd2 ivz 48 (62 + p) (nI (fset (m p) q k))) 48 (62 + q) (nI (fset (m q) p k))) 46 1 (nI 0), lv)) → MR' im lw tl iv r (nI (if (m p).testBit q = true then 1 else 0), stS (stE A (fdF A.1.2.2.1 p q k)) (nI 0)) := by
        intro r hr
        rw [fd_b _ mp.2.1 q (by omega)] at hr
        refine ⟨_, lv, hr, RelM.st (h0.wd (W := (A.1.1, A.1.2.1, fdF A.1.2.2.1 p q k, A.1.2.2.2)) ?_ ?_ h0.c) _, ?_⟩
        · rw [upd2_rw, upd2_rw]
          have e : ∀ i, (i < 62 ∨ 68 ≤ i) → pu (pu (ivz 48) (62 + p) (nI (fset (m p) q k))) (62 + q) (nI (fset (m q) p k)) i = ivz 48 i := fun i h1 => by rw [pu_n _ _ _ (by omega), pu_n _ _ _ (by omega)]
          refine ⟨fun j hj => ?_, by rw [e _ (by omega)]; exact q2, fun j hj => by rw [e _ (by omega)]; exact q3 j hj, fun j hj => ?_, by rw [e _ (by omega)]; exact q5, by rw [e _ (by omega)]; exact q6, fun n hn => (q7 n hn).row (by omega) (fun i hi => e i (by omega))⟩
          · rw [q1 j hj]; unfold fM; rw [e _ (by have := (mx_sc hj).1; omega)]
          · show _ = fdF A.1.2.2.1 p q k j
            unfold fdF
            rw [mp.1, mq.1, nI_clamp (show m p < 2 ^ 31 by omega), nI_clamp (show m q < 2 ^ 31 by omega)]
            simp only [pu]
            by_cases j1 : j = q
            · rw [if_pos (by omega), if_pos j1]
            rw [if_neg (by omega), if_neg j1]
            by_cases j2 : j = p
            · rw [if_pos (by omega), if_pos j2]
            rw [if_neg (by omega), if_neg j2]
            exact q4 j hj
        · intro x j q
          have hx48 : x ≠ 48 := by rcases q with q | ⟨q, r⟩ <;> simp at * <;> omega
          rw [upd2_off _ _ _ _ hx48, upd2_off _ _ _ _ hx48]
        · exact o0.tr (((out_upd _ _ _ (by decide) (by decide)).tr (out_upd _ _ _ (by decide) (by decide))).tr (out_upd _ _ _ (by decide) (by decide)))
      have pos : (0 : Int32) ≤ (nI (m p) >>> (nI q &&& 31)) &&& nI 1 := by rw [fd_b _ mp.2.1 q (by omega)]; split <;> decide
      by_cases hb : (nI (m p) >>> (nI q &&& 31)) &&& nI 1 = nI k
      · rw [if_pos hb] at f1 f2
        simp only [if_pos hb, f1, f2]
        exact fin _ (by rw [← hb]; rw [m_tellP X _ im lw tl _ lv pos, bI_some, sg226_120])
      · rw [if_neg hb] at f1 f2
        simp only [if_neg hb, f1, f2]
        exact fin _ (by rw [m_tellP X _ im lw tl _ lv pos, bI_some, sg226_120])
    · rw [if_neg hy, if_neg hy]
      exact mrf h0 o0 (i := 1) (by decide) (by rw [m_rf1, bI_some, sg226_48])
  · rw [if_neg hi, if_neg hi]
    exact mrf h0 o0 (i := 0) (by decide) (by rw [m_rf0, bI_some, sg226_25])
theorem O_feud (x y i : Int32) : ∀ A, OKA A → OKA (sp_feud x y i A).2 := by
  intro A h
  unfold sp_feud
  split
  · exact h
  rename_i hxy
  split
  · rename_i hi
    split
    · rename_i h2
      rw [Bool.and_eq_true] at h2
      obtain ⟨⟨b1, b2, b3, b4, b5⟩, a2, a3, a4, a5⟩ := h
      have np := b1.1.np.2
      obtain ⟨p, hp, rfl⟩ := hasV_of (by omega) h2.1
      obtain ⟨q, hq, rfl⟩ := hasV_of (by omega) h2.2
      obtain ⟨k, hk, rfl⟩ := inV_of (by decide) hi
      have hpq : p ≠ q := fun e => hxy (by rw [e])
      obtain ⟨m, m1, m2⟩ := b3
      rw [nI_clamp (show p < 2 ^ 31 by omega), nI_clamp (show q < 2 ^ 31 by omega), nI_clamp (show k < 2 ^ 31 by omega)]
      have mp := m1 p (by omega)
      have mq := m1 q (by omega)
      refine ⟨⟨b1, b2, ⟨fun j => if j = q then fset (m q) p k else if j = p then fset (m p) q k else m j, fun j hj => ?_, fun j l hj hl => ?_⟩, b4, b5⟩, a2, a3, a4, a5⟩
      · show fdF A.1.2.2.1 p q k j = _ ∧ _
        unfold fdF
        rw [mp.1, mq.1, nI_clamp (show m p < 2 ^ 31 by omega), nI_clamp (show m q < 2 ^ 31 by omega)]
        simp only [pu]
        by_cases j1 : j = q
        · rw [if_pos j1, if_pos j1]
          exact ⟨rfl, fd_l _ mq.2.1 p (by omega) k (by omega), fun hn => by have hn : nP A.1.1 ≤ j := hn; omega⟩
        rw [if_neg j1, if_neg j1]
        by_cases j2 : j = p
        · rw [if_pos j2, if_pos j2]
          exact ⟨rfl, fd_l _ mp.2.1 q (by omega) k (by omega), fun hn => by have hn : nP A.1.1 ≤ j := hn; omega⟩
        rw [if_neg j2, if_neg j2]
        exact m1 j hj
      · have tq : ∀ l, l < 6 → (fset (m q) p k).testBit l = if l = p then decide (k = 1) else (m q).testBit l := fun l hl => fd_t _ mq.2.1 p (by omega) k (by omega) l hl
        have tp : ∀ l, l < 6 → (fset (m p) q k).testBit l = if l = q then decide (k = 1) else (m p).testBit l := fun l hl => fd_t _ mp.2.1 q (by omega) k (by omega) l hl
        show (if j = q then fset (m q) p k else if j = p then fset (m p) q k else m j).testBit l = (if l = q then fset (m q) p k else if l = p then fset (m p) q k else m l).testBit j
        by_cases j1 : j = q
        · rw [if_pos j1, tq l hl]
          by_cases l1 : l = q
          · rw [if_pos l1, tq j hj, j1, l1]
          rw [if_neg l1]
          by_cases l2 : l = p
          · rw [if_pos l2, if_pos l2, tp j hj, if_pos j1]
          · rw [if_neg l2, if_neg l2, j1]; exact m2 q l (by omega) hl
        rw [if_neg j1]
        by_cases j2 : j = p
        · rw [if_pos j2, tp l hl]
          by_cases l1 : l = q
          · rw [if_pos l1, if_pos l1, tq j hj, if_pos j2]
          rw [if_neg l1, if_neg l1]
          by_cases l2 : l = p
          · rw [if_pos l2, tp j hj, if_neg j1, j2, l2]
          · rw [if_neg l2, j2]; exact m2 p l (by omega) hl
        rw [if_neg j2]
        by_cases l1 : l = q
        · rw [if_pos l1, tq j hj, if_neg j2, l1]; exact m2 j q hj (by omega)
        rw [if_neg l1]
        by_cases l2 : l = p
        · rw [if_pos l2, tp j hj, if_neg j1, l2]; exact m2 j p hj (by omega)
        · rw [if_neg l2]; exact m2 j l hj hl
    · exact h
  · exact h
theorem S_feud (x y i : Int32) : stepOK 54 226 [.inl x, .inl y, .inl i] := step_of (C_feud x y i) (M_feud x y i) (O_feud x y i)
