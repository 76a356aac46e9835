/-! small steps of both -/
def rcode (i : Nat) : Int32 := ([-1, -2, -3, -5, -6] : List Int32).getD i 0
def ri (i : Nat) : Nat := [1, 2, 3, 5, 6].getD i 0
def stF (A : St) (f : Sc) : St := ((f, A.1.2), A.2)
def stU (A : St) (U : List (Int32 × Sc)) : St := (A.1, A.2.1, A.2.2.1, U, A.2.2.2.2)
def stS (A : St) (v : Int32) : St := (A.1, A.2.1, A.2.2.1, A.2.2.2.1, A.2.2.2.2.1, (A.2.2.2.2.2.1, A.2.2.2.2.2.2.1, A.2.2.2.2.2.2.2.1, v, A.2.2.2.2.2.2.2.2.2))
/-- a refusal -/
def rfs (i : Nat) (A : St) : Int32 × St := (rcode i, (A.1, A.2.1, A.2.2.1, A.2.2.2.1, A.2.2.2.2.1, (A.2.2.2.2.2.1, A.2.2.2.2.2.2.1, A.2.2.2.2.2.2.2.1, rcode i, pu A.2.2.2.2.2.2.2.2.2 i (A.2.2.2.2.2.2.2.2.2 i + nI 1))))
theorem alen_r (L : Nat) (xs : Nat → Int32) (S : List XC) {ρ : Type} (k : Int32 → Option ρ) : alen (lawX L xs) S (some 1000001) k = k (nI 5) := rfl
theorem alen_t (L : Nat) (xs : Nat → Int32) (S : List XC) {ρ : Type} (k : Int32 → Option ρ) : alen (lawX L xs) S (some 1000002) k = k (nI 3) := rfl
theorem ild_r (L : Nat) (xs : Nat → Int32) (S : List XC) (iv : Nat → Nat → Int32) {j : Nat} (hj : j < 5) (k : Int32 → Option XR) : ild (lawX L xs) S iv (some 1000001) 50 (nI j) k = k (rcode j) := by
  show (if (decide ((50 : Nat) = 50)) = decide (1000001 < 1000003) then (if inb (nI j) 5 = true then k (([-1, -2, -3, -5, -6] : List Int32).getD (nI j).toNatClampNeg 0) else none) else none) = _
  rw [if_pos (by decide), if_pos (inb_nI hj (by omega)), nI_clamp (by omega)]
  rfl
theorem ild_t (L : Nat) (xs : Nat → Int32) (S : List XC) (iv : Nat → Nat → Int32) {j : Nat} (hj : j < 3) (k : Int32 → Option XR) : ild (lawX L xs) S iv (some 1000002) 50 (nI j) k = k (([999, 10, 9] : List Int32).getD j 0) := by
  show (if (decide ((50 : Nat) = 50)) = decide (1000002 < 1000003) then (if inb (nI j) 3 = true then k (([999, 10, 9] : List Int32).getD (nI j).toNatClampNeg 0) else none) else none) = _
  rw [if_pos (by decide), if_pos (inb_nI hj (by omega)), nI_clamp (by omega)]
theorem c_ref_step {X : XE} (hX : XOK X) (cl : XCl) (im lw : List (Option Nat)) (tl : List XC) (iv : Nat → Nat → Int32) (lv : Nat → Nat → Int64) (v : Int32) {j : Nat} (hj : j < 5) : run X cl false 1 xc16 7 [some (.inr (.inr (some 0))), some (.inl v), some (.inl (nI j))] [] (SS im lw tl, iv, lv) = if rcode j = v then run X cl false 1 xc16 7 [some (.inr (.inr (some 0))), some (.inl v), some (.inl (nI (j + 1)))] [] (SS im lw tl, upd2 iv 45 j (iv 45 j + nI 1), lv) else run X cl false 1 xc16 7 [some (.inr (.inr (some 0))), some (.inl v), some (.inl (nI (j + 1)))] [] (SS im lw tl, iv, lv) := by
  obtain ⟨L, xs, rfl⟩ := hX
  rw [sg16_7, alen_r, if_neg (nI_ge hj (by omega)), ild_r _ _ _ _ hj, if_pos (inb_nI hj (by omega)), if_pos (inb_nI hj (by omega)), nI_clamp (by omega), nI_add]
theorem c_ref_end {X : XE} (hX : XOK X) (cl : XCl) (im lw : List (Option Nat)) (tl : List XC) (iv : Nat → Nat → Int32) (lv : Nat → Nat → Int64) (v : Int32) : run X cl false 1 xc16 7 [some (.inr (.inr (some 0))), some (.inl v), some (.inl (nI 5))] [] (SS im lw tl, iv, lv) = some (some (.inl v), (SS im lw tl, iv, lv)) := by
  obtain ⟨L, xs, rfl⟩ := hX
  rw [sg16_7, alen_r, if_pos (by decide)]
/-- refused -/
theorem c_refused {X : XE} (hX : XOK X) (d : Nat) (im lw : List (Option Nat)) (tl : List XC) (iv : Nat → Nat → Int32) (lv : Nat → Nat → Int64) {i : Nat} (hi : i < 5) : call X xT (d + 1) 16 [.inr (.inr (some 0)), .inl (rcode i)] (SS im lw tl, iv, lv) = some (some (.inl (rcode i)), (SS im lw tl, upd2 (upd2 iv 0 17 (rcode i)) 45 i (iv 45 i + nI 1), lv)) := by
  have h : i = 0 ∨ i = 1 ∨ i = 2 ∨ i = 3 ∨ i = 4 := by omega
  have e : ∀ (x : Int32) (j : Nat), (upd2 iv 0 17 x) 45 j = iv 45 j := fun x j => by rw [upd2_off _ _ _ _ (by decide)]
  rw [tr16]
  rcases h with rfl | rfl | rfl | rfl | rfl
  · rw [c_ref_step hX _ _ _ _ _ _ _ (show 0 < 5 by decide), if_pos rfl, c_ref_step hX _ _ _ _ _ _ _ (show 1 < 5 by decide), if_neg (by decide), c_ref_step hX _ _ _ _ _ _ _ (show 2 < 5 by decide), if_neg (by decide), c_ref_step hX _ _ _ _ _ _ _ (show 3 < 5 by decide), if_neg (by decide), c_ref_step hX _ _ _ _ _ _ _ (show 4 < 5 by decide), if_neg (by decide), c_ref_end hX, e]
  · rw [c_ref_step hX _ _ _ _ _ _ _ (show 0 < 5 by decide), if_neg (by decide), c_ref_step hX _ _ _ _ _ _ _ (show 1 < 5 by decide), if_pos rfl, c_ref_step hX _ _ _ _ _ _ _ (show 2 < 5 by decide), if_neg (by decide), c_ref_step hX _ _ _ _ _ _ _ (show 3 < 5 by decide), if_neg (by decide), c_ref_step hX _ _ _ _ _ _ _ (show 4 < 5 by decide), if_neg (by decide), c_ref_end hX, e]
  · rw [c_ref_step hX _ _ _ _ _ _ _ (show 0 < 5 by decide), if_neg (by decide), c_ref_step hX _ _ _ _ _ _ _ (show 1 < 5 by decide), if_neg (by decide), c_ref_step hX _ _ _ _ _ _ _ (show 2 < 5 by decide), if_pos rfl, c_ref_step hX _ _ _ _ _ _ _ (show 3 < 5 by decide), if_neg (by decide), c_ref_step hX _ _ _ _ _ _ _ (show 4 < 5 by decide), if_neg (by decide), c_ref_end hX, e]
  · rw [c_ref_step hX _ _ _ _ _ _ _ (show 0 < 5 by decide), if_neg (by decide), c_ref_step hX _ _ _ _ _ _ _ (show 1 < 5 by decide), if_neg (by decide), c_ref_step hX _ _ _ _ _ _ _ (show 2 < 5 by decide), if_neg (by decide), c_ref_step hX _ _ _ _ _ _ _ (show 3 < 5 by decide), if_pos rfl, c_ref_step hX _ _ _ _ _ _ _ (show 4 < 5 by decide), if_neg (by decide), c_ref_end hX, e]
  · rw [c_ref_step hX _ _ _ _ _ _ _ (show 0 < 5 by decide), if_neg (by decide), c_ref_step hX _ _ _ _ _ _ _ (show 1 < 5 by decide), if_neg (by decide), c_ref_step hX _ _ _ _ _ _ _ (show 2 < 5 by decide), if_neg (by decide), c_ref_step hX _ _ _ _ _ _ _ (show 3 < 5 by decide), if_neg (by decide), c_ref_step hX _ _ _ _ _ _ _ (show 4 < 5 by decide), if_pos rfl, c_ref_end hX, e]
/-- tell -/
theorem m_tellN (X : XE) (d : Nat) (im lw : List (Option Nat)) (tl : List XC) (iv : Nat → Nat → Int32) (lv : Nat → Nat → Int64) {i : Nat} (hi : i < 5) : call X xT (d + 1) 198 [.inr (.inr (some 46)), .inl (rcode i)] (SS im lw tl, iv, lv) = some (some (.inl (rcode i)), (SS im lw tl, upd2 (upd2 iv 46 1 (rcode i)) 47 (ri i) (iv 47 (ri i) + nI 1), lv)) := by
  have h : i = 0 ∨ i = 1 ∨ i = 2 ∨ i = 3 ∨ i = 4 := by omega
  rw [tr198]
  rcases h with rfl | rfl | rfl | rfl | rfl
  · rw [if_neg (by decide), sg198_10, if_neg (by decide), if_pos (by decide), if_pos (by decide), sg198_28, show (-rcode 0).toNatClampNeg = ri 0 by decide]
  · rw [if_neg (by decide), sg198_10, if_neg (by decide), if_pos (by decide), if_pos (by decide), sg198_28, show (-rcode 1).toNatClampNeg = ri 1 by decide]
  · rw [if_neg (by decide), sg198_10, if_neg (by decide), if_pos (by decide), if_pos (by decide), sg198_28, show (-rcode 2).toNatClampNeg = ri 2 by decide]
  · rw [if_neg (by decide), sg198_10, if_neg (by decide), if_pos (by decide), if_pos (by decide), sg198_28, show (-rcode 3).toNatClampNeg = ri 3 by decide]
  · rw [if_neg (by decide), sg198_10, if_neg (by decide), if_pos (by decide), if_pos (by decide), sg198_28, show (-rcode 4).toNatClampNeg = ri 4 by decide]
theorem m_tellP (X : XE) (d : Nat) (im lw : List (Option Nat)) (tl : List XC) (iv : Nat → Nat → Int32) (lv : Nat → Nat → Int64) {v : Int32} (hv : 0 ≤ v) : call X xT (d + 1) 198 [.inr (.inr (some 46)), .inl v] (SS im lw tl, iv, lv) = some (some (.inl v), (SS im lw tl, upd2 iv 46 1 (nI 0), lv)) := by
  rw [tr198, if_pos hv, sg198_10, if_pos hv, sg198_28]
theorem m_setN (X : XE) (d : Nat) (im lw : List (Option Nat)) (tl : List XC) (iv : Nat → Nat → Int32) (lv : Nat → Nat → Int64) {i : Nat} (hi : i < 5) : call X xT (d + 2) 203 [.inr (.inr (some 46)), .inl (rcode i)] (SS im lw tl, iv, lv) = some (some (.inl (rcode i)), (SS im lw tl, upd2 (upd2 iv 46 1 (rcode i)) 47 (ri i) (iv 47 (ri i) + nI 1), lv)) := by
  have h : ¬ (0 : Int32) ≤ rcode i := by
    have h : i = 0 ∨ i = 1 ∨ i = 2 ∨ i = 3 ∨ i = 4 := by omega
    rcases h with rfl | rfl | rfl | rfl | rfl <;> decide
  rw [tr203, if_neg h, upd2_id, m_tellN X d im lw tl iv lv hi, bI_some, sg203_21]
theorem m_setP (X : XE) (d : Nat) (im lw : List (Option Nat)) (tl : List XC) (iv : Nat → Nat → Int32) (lv : Nat → Nat → Int64) {v : Int32} (hv : 0 ≤ v) : call X xT (d + 2) 203 [.inr (.inr (some 46)), .inl v] (SS im lw tl, iv, lv) = some (some (.inl v), (SS im lw tl, upd2 (upd2 iv 46 8 (nI 0)) 46 1 (nI 0), lv)) := by
  rw [tr203, if_pos hv, m_tellP X d im lw tl _ lv hv, bI_some, sg203_21]
/-- within of the class -/
def inV (x top : Int32) : Bool := decide (¬ x < 0 ∧ ¬ top < x)
theorem c_within (X : XE) (d : Nat) (im lw : List (Option Nat)) (tl : List XC) (iv : Nat → Nat → Int32) (lv : Nat → Nat → Int64) (x top : Int32) : call X xT (d + 1) 15 [.inl x, .inl top] (SS im lw tl, iv, lv) = some (some (.inl (b2i (inV x top))), (SS im lw tl, iv, lv)) := by
  rw [tr15]
  unfold inV
  by_cases h1 : x < 0
  · rw [if_pos h1, decide_eq_false (fun q => q.1 h1)]; rfl
  · rw [if_neg h1]
    by_cases h2 : top < x
    · rw [if_pos h2, decide_eq_false (fun q => q.2 h2)]; rfl
    · rw [if_neg h2, decide_eq_true ⟨h1, h2⟩]; rfl
theorem in_inV (x : Int32) {top : Nat} (ht : top < 2 ^ 31) : decide (lN 0 ≤ x.toInt64 ∧ x.toInt64 ≤ lN top) = inV x (nI top) := by
  unfold inV
  refine decide_eq_decide.mpr ?_
  rw [fb_le64, fb_le64, fb_lt, fb_lt, Int32.toInt_toInt64, lN_toInt (by decide), lN_toInt ht, nI_toInt ht, show (0 : Int32).toInt = 0 by decide]
  omega
theorem inV_of {x : Int32} {top : Nat} (ht : top < 2 ^ 31) (h : inV x (nI top) = true) : ∃ m, m ≤ top ∧ x = nI m := by
  unfold inV at h
  have h := of_decide_eq_true h
  obtain ⟨j, hj, e⟩ := nI_of h.1
  refine ⟨j, ?_, e⟩
  rw [e] at h
  exact Nat.le_of_not_lt (fun q => h.2 (nI_lt q hj))
theorem inV_nI {m top : Nat} (h : m ≤ top) (ht : top < 2 ^ 31) : inV (nI m) (nI top) = true := decide_eq_true ⟨nI_pos (by omega), nI_nlt h ht⟩
/-- isProvince, isTamer -/
theorem has_in (x : Int32) {n : Nat} (hn : n < 2 ^ 31) : decide (lN 0 ≤ x.toInt64 ∧ x.toInt64 ≤ (nI n).toInt64 - lN 1) = hasV (nI n) x := by
  unfold hasV
  refine decide_eq_decide.mpr ?_
  have e : ((nI n).toInt64 - lN 1).toInt = (n : Int) - 1 := by
    rw [nI_l hn, Int64.toInt_sub, lN_toInt hn, lN_toInt (by decide), Int.bmod_def]
    omega
  rw [fb_le64, fb_le64, fb_lt, fb_le, e, Int32.toInt_toInt64, lN_toInt (by decide), nI_toInt hn, show (0 : Int32).toInt = 0 by decide]
  omega
theorem m_isP (X : XE) (d : Nat) (im lw : List (Option Nat)) (tl : List XC) (iv : Nat → Nat → Int32) (lv : Nat → Nat → Int64) {n : Nat} (hn : n ≤ 6) (h0 : iv 48 0 = nI n) (x : Int32) : call X xT (d + 2) 209 [.inr (.inr (some 46)), .inl x] (SS im lw tl, iv, lv) = some (some (.inl (b2i (hasV (nI n) x))), (SS im lw tl, iv, lv)) := by
  rw [tr209, m_in X d, bI_some, sg209_15, h0, has_in x (by omega), if_pos (is01_b2i _)]
theorem m_isT (X : XE) (d : Nat) (im lw : List (Option Nat)) (tl : List XC) (iv : Nat → Nat → Int32) (lv : Nat → Nat → Int64) {n : Nat} (hn : n ≤ 4) (h0 : iv 48 1 = nI n) (x : Int32) : call X xT (d + 2) 215 [.inr (.inr (some 46)), .inl x] (SS im lw tl, iv, lv) = some (some (.inl (b2i (hasV (nI n) x))), (SS im lw tl, iv, lv)) := by
  rw [tr215, m_in X d, bI_some, sg215_15, h0, has_in x (by omega), if_pos (is01_b2i _)]
theorem hasV_of {x : Int32} {n : Nat} (hn : n < 2 ^ 31) (h : hasV (nI n) x = true) : ∃ m, m < n ∧ x = nI m := by
  unfold hasV at h
  have h := of_decide_eq_true h
  obtain ⟨j, hj, e⟩ := nI_of h.1
  refine ⟨j, ?_, e⟩
  rw [e] at h
  exact Nat.lt_of_not_le (fun q => h.2 (nI_le q hj))
theorem hasV_nI {m n : Nat} (h : m < n) (hn : n < 2 ^ 31) : hasV (nI n) (nI m) = true := decide_eq_true ⟨nI_pos (by omega), nI_ge h hn⟩
theorem okS.np {f : Sc} (h : okS f) : f 0 = nI (nP f) ∧ nP f ≤ 6 := by
  obtain ⟨m, h1, h2⟩ := h 0 (by omega)
  have h1 : m ≤ 6 := h1
  have e : nP f = m := by unfold nP; rw [h2, nI_clamp (by omega)]
  rw [e]; exact ⟨h2, h1⟩
theorem okS.nt {f : Sc} (h : okS f) : f 1 = nI (nT f) ∧ nT f ≤ 4 := by
  obtain ⟨m, h1, h2⟩ := h 1 (by omega)
  have h1 : m ≤ 4 := h1
  have e : nT f = m := by unfold nT; rw [h2, nI_clamp (by omega)]
  rw [e]; exact ⟨h2, h1⟩
theorem sc2 (im lw : List (Option Nat)) (tl : List XC) : scell (SS im lw tl) 2 3 := ⟨rfl, rfl, by decide⟩
theorem sc22 (im lw : List (Option Nat)) (tl : List XC) : scell (SS im lw tl) 22 23 := ⟨rfl, rfl, by decide⟩
theorem sc36 (im lw : List (Option Nat)) (tl : List XC) : scell (SS im lw tl) 36 37 := ⟨rfl, rfl, by decide⟩
theorem sc38 (im lw : List (Option Nat)) (tl : List XC) : scell (SS im lw tl) 38 39 := ⟨rfl, rfl, by decide⟩
theorem sc40 (im lw : List (Option Nat)) (tl : List XC) : scell (SS im lw tl) 40 41 := ⟨rfl, rfl, by decide⟩
/-- the class's scene of now -/
theorem RelC.eq {A : St} {im lw : List (Option Nat)} {tl : List XC} {iv : Nat → Nat → Int32} (h : RelC A im lw tl iv) : eqS (iv 3) A.1.1 := h.2.1.1
theorem RelC.st {A : St} {im lw : List (Option Nat)} {tl : List XC} {iv : Nat → Nat → Int32} (h : RelC A im lw tl iv) (v : Int32) : RelC (stS A v) im lw tl (upd2 iv 0 17 v) := by
  obtain ⟨h0, h1, h2, h3, h4, h5, h6⟩ := h
  have e : ∀ a, a ≠ 0 → (upd2 iv 0 17 v) a = iv a := fun a ha => upd2_off _ _ _ _ ha
  refine ⟨h0, ?_, h2.fr (fun a ha => e a (by omega)), ?_, ?_, ?_, ?_⟩
  · exact h1.fr (e _ (by decide)) (e _ (by decide)) (e _ (by decide)) (e _ (by decide)) (e _ (by decide)) (fun x hx => e x (by have := hx.1; omega))
  · rw [e 9 (by decide), e 10 (by decide)]; exact h3
  · exact h4.fr (e _ (by decide)) (e _ (by decide)) (e _ (by decide))
  · rw [e 41 (by decide)]; exact h5
  · obtain ⟨m1, m2, m3, m4, m5⟩ := h6
    refine ⟨by rw [e 11 (by decide)]; exact m1, by rw [upd2_ne _ _ _ _ (by omega)]; exact m2, by rw [upd2_ne _ _ _ _ (by omega)]; exact m3, by rw [upd2_self]; rfl, by rw [e 45 (by decide)]; exact m5⟩
theorem RelC.rfs {A : St} {im lw : List (Option Nat)} {tl : List XC} {iv : Nat → Nat → Int32} (h : RelC A im lw tl iv) {i : Nat} (hi : i < 5) : RelC (rfs i A).2 im lw tl (upd2 (upd2 iv 0 17 (rcode i)) 45 i (iv 45 i + nI 1)) := by
  have h := h.st (rcode i)
  have e45 : (upd2 iv 0 17 (rcode i)) 45 = iv 45 := upd2_off _ _ _ _ (by decide)
  rw [← e45]
  generalize upd2 iv 0 17 (rcode i) = iv at h
  obtain ⟨h0, h1, h2, h3, h4, h5, h6⟩ := h
  have e : ∀ a, a ≠ 45 → (upd2 iv 45 i (iv 45 i + nI 1)) a = iv a := fun a ha => upd2_off _ _ _ _ ha
  refine ⟨h0, ?_, h2.fr (fun a ha => e a (by omega)), ?_, ?_, ?_, ?_⟩
  · exact h1.fr (e _ (by decide)) (e _ (by decide)) (e _ (by decide)) (e _ (by decide)) (e _ (by decide)) (fun x hx => e x (by have := hx.1; omega))
  · rw [e 9 (by decide), e 10 (by decide)]; exact h3
  · exact h4.fr (e _ (by decide)) (e _ (by decide)) (e _ (by decide))
  · rw [e 41 (by decide)]; exact h5
  · obtain ⟨m1, m2, m3, m4, m5⟩ := h6
    refine ⟨by rw [e 11 (by decide)]; exact m1, by rw [e 0 (by decide)]; exact m2, by rw [e 0 (by decide)]; exact m3, by rw [e 0 (by decide)]; exact m4, fun k hk => ?_⟩
    rw [upd2_rw]
    show pu (iv 45) i _ k = pu _ i _ k
    by_cases hk2 : k = i
    · subst hk2; rw [pu_s, pu_s, m5 k hk]; rfl
    · rw [pu_n _ _ _ hk2, pu_n _ _ _ hk2]; exact m5 k hk
theorem RelC.clr {A : St} {im lw : List (Option Nat)} {tl : List XC} {iv : Nat → Nat → Int32} (h : RelC A im lw tl iv) : RelC (stU A []) im lw tl (upd2 (upd2 iv 30 3 (nI 0)) 30 2 (nI 0)) := by
  obtain ⟨h0, h1, h2, h3, h4, h5, h6⟩ := h
  have e : ∀ a, a ≠ 30 → (upd2 (upd2 iv 30 3 (nI 0)) 30 2 (nI 0)) a = iv a := fun a ha => by rw [upd2_off _ _ _ _ ha, upd2_off _ _ _ _ ha]
  refine ⟨h0, ?_, h2.fr (fun a ha => e a (by omega)), ?_, ?_, ?_, ?_⟩
  · exact h1.fr (e _ (by decide)) (e _ (by decide)) (e _ (by decide)) (e _ (by decide)) (e _ (by decide)) (fun x hx => e x (by have := hx.1; omega))
  · rw [e 9 (by decide), e 10 (by decide)]; exact h3
  · exact ⟨0, by decide, by rw [upd2_self], by rw [upd2_ne _ _ _ _ (by omega), upd2_self]; rfl, fun i e h => by simp [stU] at h⟩
  · rw [e 41 (by decide)]; exact h5
  · unfold miscC; rw [e 11 (by decide), e 0 (by decide), e 45 (by decide)]; exact h6
theorem RelC.sc {A : St} {im lw : List (Option Nat)} {tl : List XC} {iv : Nat → Nat → Int32} (h : RelC A im lw tl iv) {g f : Sc} (hg : eqS g f) : RelC (stF A f) im lw tl (upr iv 3 g) := by
  obtain ⟨h0, h1, h2, h3, h4, h5, h6⟩ := h
  have e : ∀ a, a ≠ 3 → (upr iv 3 g) a = iv a := fun a ha => upr_off _ _ _ ha
  refine ⟨h0, ?_, h2.fr (fun a ha => e a (by omega)), ?_, ?_, ?_, ?_⟩
  · obtain ⟨q1, q2, q3, q4, q5, q6, q7⟩ := h1
    refine ⟨by rw [upr_self]; exact hg, by rw [e 4 (by decide)]; exact q2, by rw [e 5 (by decide)]; exact q3, by rw [e 6 (by decide)]; exact q4, by rw [e 1 (by decide)]; exact q5, by rw [e 1 (by decide)]; exact q6, fun k hk => ?_⟩
    obtain ⟨r, w1, w2, w3⟩ := q7 k hk
    exact ⟨r, w1, w2, w3.mo (Nat.le_refl _) (fun _ _ h => h) (fun x _ hx => ⟨rfl, e x (by have := hx.1; omega)⟩)⟩
  · rw [e 9 (by decide), e 10 (by decide)]; exact h3
  · exact h4.fr (e _ (by decide)) (e _ (by decide)) (e _ (by decide))
  · rw [e 41 (by decide)]; exact h5
  · unfold miscC; rw [e 11 (by decide), e 0 (by decide), e 45 (by decide)]; exact h6
/-- the law in force of the class -/
theorem c_force {X : XE} {d : Nat} {im lw : List (Option Nat)} {tl : List XC} {iv : Nat → Nat → Int32} {lv : Nat → Nat → Int64} {A : St} (h : RelC A im lw tl iv) (ho : OKA A) : ∃ r, call X xT (d + 2) 25 [.inr (.inr (some 1))] (SS im lw tl, iv, lv) = some (some (.inr (.inr r)), (SS im lw tl, iv, lv)) ∧ ∀ iv', (∀ a, 79 ≤ a → iv' a = iv a) → lawT (SS im lw tl) iv' r (lawOf A.1).1 (lawOf A.1).2 := by
  obtain ⟨-, ⟨q1, q2, q3, q4, q5, q6, q7⟩, -⟩ := h
  obtain ⟨⟨-, -, -, b1, b2⟩, -⟩ := ho
  rw [tr25, tr26, q6, q5]
  rcases b2 with e | ⟨k, hk, e⟩
  · rw [e, if_pos (by decide), bR_some, sg25_8]
    refine ⟨none, rfl, fun iv' _ => ?_⟩
    unfold lawOf
    rw [if_pos e]
    exact fun _ _ => Or.inl ⟨rfl, rfl⟩
  · obtain ⟨r, w1, w2, w3⟩ := q7 k hk
    rw [e, if_neg (nI_pos (by omega)), if_neg (nI_ge hk (by omega)), if_neg (nI_ge (show k < 6 by omega) (by omega)), if_pos (inb_nI (by omega) (by omega)), nI_clamp (by omega), w1, if_pos (by simp [lowR, w2]), bR_some, sg25_8]
    refine ⟨some r, rfl, fun iv' h2 => ?_⟩
    unfold lawOf
    rw [if_neg (by rw [e]; exact nI_m1 (by omega)), e, nI_clamp (by omega)]
    exact fun iv2 h3 => w3 _ _ (fun a _ ha => ⟨rfl, (h3 a ha.1).trans (h2 a ha.1)⟩)
/-! the reference -/
theorem RelM.fr {A : St} {iv iv' : Nat → Nat → Int32} {lv lv' : Nat → Nat → Int64} (h : RelM A iv lv) (e : ∀ a k, (a ∈ [47, 48, 49, 50, 51, 52, 55, 78] ∨ (a = 46 ∧ k ∈ [1, 8, 11, 13, 18, 20, 54, 58, 59])) → iv' a k = iv a k) (e2 : constM lv') : RelM A iv' lv' := by
  have c : ∀ a, a ∈ [47, 48, 49, 50, 51, 52, 55, 78] → iv' a = iv a := fun a ha => by funext k; exact e a k (Or.inl ha)
  have f : ∀ k, k ∈ [1, 8, 11, 13, 18, 20, 54, 58, 59] → iv' 46 k = iv 46 k := fun k hk => e 46 k (Or.inr ⟨rfl, hk⟩)
  obtain ⟨h1, h2, h3, h4, h5, h6, h7, h8⟩ := h
  refine ⟨?_, ?_, ?_, ?_, ?_, ?_, ?_, e2⟩
  · rw [c 48 (by simp)]; exact h1
  · unfold imgsM; rw [c 49 (by simp), c 50 (by simp)]; exact h2
  · rw [f 13 (by simp), c 55 (by simp)]; exact h3
  · unfold undoM; rw [f 8 (by simp), c 51 (by simp), c 52 (by simp)]; exact h4
  · unfold drawnM; rw [f 58 (by simp), f 59 (by simp), c 78 (by simp)]; exact h5
  · unfold miscM; rw [f 18 (by simp), f 54 (by simp), f 11 (by simp), f 1 (by simp), c 47 (by simp)]; exact h6
  · rw [f 20 (by simp)]; exact h7
theorem constM.ag {lv lv' : Nat → Nat → Int64} (h : constM lv) (e : ∀ a, a ∈ [61, 62, 63, 76] → lv' a = lv a) : constM lv' := by
  unfold constM
  rw [e 61 (by simp), e 62 (by simp), e 63 (by simp), e 76 (by simp)]
  exact h
theorem constM.N {lv lv' : Nat → Nat → Int64} (h : constM lv) (e : agN lv lv') : constM lv' := h.ag (fun a ha => by funext k; exact e a k (by simp at ha; omega) (by simp at ha; omega) (by simp at ha; omega))
theorem RelM.c {A : St} {iv : Nat → Nat → Int32} {lv : Nat → Nat → Int64} (h : RelM A iv lv) : constM lv := h.2.2.2.2.2.2.2
theorem RelM.ag {A : St} {iv iv' : Nat → Nat → Int32} {lv lv' : Nat → Nat → Int64} (h : RelM A iv lv) (e : agM iv iv') (e2 : agN lv lv') : RelM A iv' lv' := h.fr (fun a k q => e a k (by rcases q with q | ⟨q, r⟩ <;> simp at * <;> omega)) (h.c.N e2)
theorem RelM.thr {A : St} {iv : Nat → Nat → Int32} {lv : Nat → Nat → Int64} (h : RelM A iv lv) (x : Int32) : RelM A (upd2 iv 46 0 x) lv := h.fr (fun a k q => upd2_ne _ _ _ _ (by rcases q with q | ⟨q, r⟩ <;> simp at * <;> omega)) h.c
theorem RelM.st {A : St} {iv : Nat → Nat → Int32} {lv : Nat → Nat → Int64} (h : RelM A iv lv) (v : Int32) : RelM (stS A v) (upd2 iv 46 1 v) lv := by
  have c : ∀ a, a ≠ 46 → (upd2 iv 46 1 v) a = iv a := fun a ha => upd2_off _ _ _ _ ha
  have f : ∀ k, k ≠ 1 → (upd2 iv 46 1 v) 46 k = iv 46 k := fun k hk => upd2_ne _ _ _ _ (by omega)
  obtain ⟨h1, h2, h3, h4, h5, h6, h7, h8⟩ := h
  refine ⟨?_, ?_, ?_, ?_, ?_, ?_, ?_, h8⟩
  · rw [c 48 (by simp)]; exact h1
  · unfold imgsM; rw [c 49 (by simp), c 50 (by simp)]; exact h2
  · rw [f 13 (by simp), c 55 (by simp)]; exact h3
  · unfold undoM; rw [f 8 (by simp), c 51 (by simp), c 52 (by simp)]; exact h4
  · unfold drawnM; rw [f 58 (by simp), f 59 (by simp), c 78 (by simp)]; exact h5
  · unfold miscM
    rw [f 18 (by simp), f 54 (by simp), f 11 (by simp), c 47 (by simp), upd2_self]
    obtain ⟨m1, m2, m3, m4, m5⟩ := h6
    exact ⟨m1, m2, m3, rfl, m5⟩
  · rw [f 20 (by simp)]; exact h7
theorem RelM.rfs {A : St} {iv : Nat → Nat → Int32} {lv : Nat → Nat → Int64} (h : RelM A iv lv) {i : Nat} (hi : i < 5) : RelM (rfs i A).2 (upd2 (upd2 iv 46 1 (rcode i)) 47 (ri i) (iv 47 (ri i) + nI 1)) lv := by
  have h := h.st (rcode i)
  have e47 : (upd2 iv 46 1 (rcode i)) 47 = iv 47 := upd2_off _ _ _ _ (by decide)
  rw [← e47]
  generalize upd2 iv 46 1 (rcode i) = iv at h
  have c : ∀ a, a ≠ 47 → (upd2 iv 47 (ri i) (iv 47 (ri i) + nI 1)) a = iv a := fun a ha => upd2_off _ _ _ _ ha
  obtain ⟨h1, h2, h3, h4, h5, h6, h7, h8⟩ := h
  refine ⟨?_, ?_, ?_, ?_, ?_, ?_, ?_, h8⟩
  · rw [c 48 (by simp)]; exact h1
  · unfold imgsM; rw [c 49 (by simp), c 50 (by simp)]; exact h2
  · rw [c 46 (by simp), c 55 (by simp)]; exact h3
  · unfold undoM; rw [c 46 (by simp), c 51 (by simp), c 52 (by simp)]; exact h4
  · unfold drawnM; rw [c 46 (by simp), c 78 (by simp)]; exact h5
  · unfold miscM
    rw [c 46 (by simp), upd2_rw]
    obtain ⟨m1, m2, m3, m4, m5, m6, m7, m8, m9⟩ := h6
    have h : i = 0 ∨ i = 1 ∨ i = 2 ∨ i = 3 ∨ i = 4 := by omega
    refine ⟨m1, m2, m3, m4, ?_, ?_, ?_, ?_, ?_⟩ <;> rcases h with rfl | rfl | rfl | rfl | rfl <;> simp [pu, ri, _root_.Jvm.Pilot.CTamerStateLaw_law_r1537_5c0d78.rfs] <;> first | exact m5 | exact m6 | exact m7 | exact m8 | exact m9 | (rw [m5]; rfl) | (rw [m6]; rfl) | (rw [m7]; rfl) | (rw [m8]; rfl) | (rw [m9]; rfl)
  · rw [c 46 (by simp)]; exact h7
theorem RelM.clr {A : St} {iv : Nat → Nat → Int32} {lv : Nat → Nat → Int64} (h : RelM A iv lv) : RelM (stU A []) (upd2 iv 46 8 (nI 0)) lv := by
  have c : ∀ a, a ≠ 46 → (upd2 iv 46 8 (nI 0)) a = iv a := fun a ha => upd2_off _ _ _ _ ha
  have f : ∀ k, k ≠ 8 → (upd2 iv 46 8 (nI 0)) 46 k = iv 46 k := fun k hk => upd2_ne _ _ _ _ (by omega)
  obtain ⟨h1, h2, h3, h4, h5, h6, h7, h8⟩ := h
  refine ⟨?_, ?_, ?_, ?_, ?_, ?_, ?_, h8⟩
  · rw [c 48 (by simp)]; exact h1
  · unfold imgsM; rw [c 49 (by simp), c 50 (by simp)]; exact h2
  · rw [f 13 (by simp), c 55 (by simp)]; exact h3
  · exact ⟨by rw [upd2_self]; rfl, fun i e h => by simp [stU] at h⟩
  · unfold drawnM; rw [f 58 (by simp), f 59 (by simp), c 78 (by simp)]; exact h5
  · unfold miscM; rw [f 18 (by simp), f 54 (by simp), f 11 (by simp), f 1 (by simp), c 47 (by simp)]; exact h6
  · rw [f 20 (by simp)]; exact h7
/-- the row becomes another scene's -/
theorem rowM.sc {g g' : Sc} {w : Wd} (h : rowM g w) {f : Sc} (e : eqS f (fM g')) (r : rowS g g') : rowM g' (f, w.2) := by
  obtain ⟨h1, h2, h3, h4, h5, h6, h7⟩ := h
  exact ⟨e, by rw [r 2 (by omega)]; exact h2, fun j hj => by rw [r _ (by omega)]; exact h3 j hj, fun p hp => by rw [r _ (by omega)]; exact h4 p hp, by rw [r 3 (by omega)]; exact h5, by rw [r 4 (by omega)]; exact h6, fun k hk => (h7 k hk).row (by omega) (fun i hi => r i (by omega))⟩
theorem RelM.sc {A : St} {iv iv' : Nat → Nat → Int32} {lv lv' : Nat → Nat → Int64} (h : RelM A iv lv) {f : Sc} (e : eqS f (fM (iv' 48))) (r : rowS (iv 48) (iv' 48)) (e2 : ∀ a k, (a ∈ [47, 49, 50, 51, 52, 55, 78] ∨ (a = 46 ∧ k ∈ [1, 8, 11, 13, 18, 20, 54, 58, 59])) → iv' a k = iv a k) (e3 : constM lv') : RelM (stF A f) iv' lv' := by
  have c : ∀ a, a ∈ [47, 49, 50, 51, 52, 55, 78] → iv' a = iv a := fun a ha => by funext k; exact e2 a k (Or.inl ha)
  have f : ∀ k, k ∈ [1, 8, 11, 13, 18, 20, 54, 58, 59] → iv' 46 k = iv 46 k := fun k hk => e2 46 k (Or.inr ⟨rfl, hk⟩)
  obtain ⟨h1, h2, h3, h4, h5, h6, h7, h8⟩ := h
  refine ⟨h1.sc e r, ?_, ?_, ?_, ?_, ?_, ?_, e3⟩
  · unfold imgsM; rw [c 49 (by simp), c 50 (by simp)]; exact h2
  · rw [f 13 (by simp), c 55 (by simp)]; exact h3
  · unfold undoM; rw [f 8 (by simp), c 51 (by simp), c 52 (by simp)]; exact h4
  · unfold drawnM; rw [f 58 (by simp), f 59 (by simp), c 78 (by simp)]; exact h5
  · unfold miscM; rw [f 18 (by simp), f 54 (by simp), f 11 (by simp), f 1 (by simp), c 47 (by simp)]; exact h6
  · rw [f 20 (by simp)]; exact h7
theorem RelM.lawG {A : St} {iv : Nat → Nat → Int32} {lv : Nat → Nat → Int64} (h : RelM A iv lv) (ho : OKA A) : lawG (iv 48) (lawOf A.1).1 (lawOf A.1).2 := by
  obtain ⟨⟨-, -, -, -, -, q6, q7⟩, -⟩ := h
  obtain ⟨⟨-, -, -, b1, b2⟩, -⟩ := ho
  unfold lawOf
  rcases b2 with e | ⟨k, hk, e⟩
  · rw [if_pos e]
    exact Or.inl ⟨by rw [q6]; exact e, rfl⟩
  · rw [if_neg (by rw [e]; exact nI_m1 (by omega)), e, nI_clamp (by omega)]
    exact Or.inr ⟨k, by omega, by rw [q6]; exact e, q7 k hk⟩
theorem frG.out {L : List Nat} {iv iv' : Nat → Nat → Int32} (h : frG L iv iv') (hL : ∀ x, x ∈ L → 46 ≤ x ∧ x < 79) : outI iv iv' := fun a ha => by funext k; exact h a k (fun q => by have := hL a q; omega) (by omega)
theorem fr.out {L : List Nat} {iv iv' : Nat → Nat → Int32} (h : fr L iv iv') (hL : ∀ x, x ∈ L → 46 ≤ x ∧ x < 79) : outI iv iv' := fun a ha => h a (fun q => by have := hL a q; omega)
theorem fr.mid {L : List Nat} {iv iv' : Nat → Nat → Int32} (h : fr L iv iv') (hL : ∀ x, x ∈ L → x < 46) : midI iv iv' := fun a h1 h2 => h a (fun q => by have := hL a q; omega)
theorem agM.out {iv iv' : Nat → Nat → Int32} (h : agM iv iv') : outI iv iv' := fun a ha => h.row (by omega)
theorem outI.tr {a b c : Nat → Nat → Int32} (h : outI a b) (h2 : outI b c) : outI a c := fun x hx => (h2 x hx).trans (h x hx)
theorem outI.rf {a : Nat → Nat → Int32} : outI a a := fun _ _ => rfl
theorem midI.tr {a b c : Nat → Nat → Int32} (h : midI a b) (h2 : midI b c) : midI a c := fun x h3 h4 => (h2 x h3 h4).trans (h x h3 h4)
theorem midI.rf {a : Nat → Nat → Int32} : midI a a := fun _ _ _ => rfl
theorem midL.tr {a b c : Nat → Nat → Int64} (h : midL a b) (h2 : midL b c) : midL a c := fun x h3 h4 => (h2 x h3 h4).trans (h x h3 h4)
theorem midL.rf {a : Nat → Nat → Int64} : midL a a := fun _ _ _ => rfl
theorem mid_upd (iv : Nat → Nat → Int32) {a : Nat} (k : Nat) (v : Int32) (h : a < 46) : midI iv (upd2 iv a k v) := fun x h1 _ => upd2_off _ _ _ _ (by omega)
theorem mid_upr (iv : Nat → Nat → Int32) {a : Nat} (g : Sc) (h : a < 46) : midI iv (upr iv a g) := fun x h1 _ => upr_off _ _ _ (by omega)
theorem out_upd (iv : Nat → Nat → Int32) {a : Nat} (k : Nat) (v : Int32) (h : 46 ≤ a) (h2 : a < 79) : outI iv (upd2 iv a k v) := fun x h1 => upd2_off _ _ _ _ (by omega)
theorem agC.mid {iv iv' : Nat → Nat → Int32} (h : agC iv iv') : midI iv iv' := fun a h1 _ => h a (by omega) (by omega)
theorem agL.mid {lv lv' : Nat → Nat → Int64} (h : agL lv lv') : midL lv lv' := fun a h1 _ => h a (by omega)
theorem RelC.ag {A : St} {im lw : List (Option Nat)} {tl : List XC} {iv iv' : Nat → Nat → Int32} (h : RelC A im lw tl iv) (e : agC iv iv') : RelC A im lw tl iv' := h.fr (fun a ha => e a (by simp [ncC] at ha; omega) (by simp [ncC] at ha; omega)) (fun a ha => e a (by omega) (by omega))
