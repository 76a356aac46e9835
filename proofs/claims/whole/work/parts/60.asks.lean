/-! calls: first the plain ones -/
theorem c_rf0 {X : XE} (hX : XOK X) (d : Nat) (im lw : List (Option Nat)) (tl : List XC) (iv : Nat → Nat → Int32) (lv : Nat → Nat → Int64) : call X xT (d + 1) 16 [.inr (.inr (some 0)), .inl (-1)] (SS im lw tl, iv, lv) = some (some (.inl (rcode 0)), (SS im lw tl, upd2 (upd2 iv 0 17 (rcode 0)) 45 0 (iv 45 0 + nI 1), lv)) := c_refused hX d im lw tl iv lv (i := 0) (by decide)
theorem m_rf0 (X : XE) (d : Nat) (im lw : List (Option Nat)) (tl : List XC) (iv : Nat → Nat → Int32) (lv : Nat → Nat → Int64) : call X xT (d + 1) 198 [.inr (.inr (some 46)), .inl (-1)] (SS im lw tl, iv, lv) = some (some (.inl (rcode 0)), (SS im lw tl, upd2 (upd2 iv 46 1 (rcode 0)) 47 (ri 0) (iv 47 (ri 0) + nI 1), lv)) := m_tellN X d im lw tl iv lv (i := 0) (by decide)
theorem m_sf0 (X : XE) (d : Nat) (im lw : List (Option Nat)) (tl : List XC) (iv : Nat → Nat → Int32) (lv : Nat → Nat → Int64) : call X xT (d + 2) 203 [.inr (.inr (some 46)), .inl (-1)] (SS im lw tl, iv, lv) = some (some (.inl (rcode 0)), (SS im lw tl, upd2 (upd2 iv 46 1 (rcode 0)) 47 (ri 0) (iv 47 (ri 0) + nI 1), lv)) := m_setN X d im lw tl iv lv (i := 0) (by decide)
theorem c_rf1 {X : XE} (hX : XOK X) (d : Nat) (im lw : List (Option Nat)) (tl : List XC) (iv : Nat → Nat → Int32) (lv : Nat → Nat → Int64) : call X xT (d + 1) 16 [.inr (.inr (some 0)), .inl (-2)] (SS im lw tl, iv, lv) = some (some (.inl (rcode 1)), (SS im lw tl, upd2 (upd2 iv 0 17 (rcode 1)) 45 1 (iv 45 1 + nI 1), lv)) := c_refused hX d im lw tl iv lv (i := 1) (by decide)
theorem m_rf1 (X : XE) (d : Nat) (im lw : List (Option Nat)) (tl : List XC) (iv : Nat → Nat → Int32) (lv : Nat → Nat → Int64) : call X xT (d + 1) 198 [.inr (.inr (some 46)), .inl (-2)] (SS im lw tl, iv, lv) = some (some (.inl (rcode 1)), (SS im lw tl, upd2 (upd2 iv 46 1 (rcode 1)) 47 (ri 1) (iv 47 (ri 1) + nI 1), lv)) := m_tellN X d im lw tl iv lv (i := 1) (by decide)
theorem m_sf1 (X : XE) (d : Nat) (im lw : List (Option Nat)) (tl : List XC) (iv : Nat → Nat → Int32) (lv : Nat → Nat → Int64) : call X xT (d + 2) 203 [.inr (.inr (some 46)), .inl (-2)] (SS im lw tl, iv, lv) = some (some (.inl (rcode 1)), (SS im lw tl, upd2 (upd2 iv 46 1 (rcode 1)) 47 (ri 1) (iv 47 (ri 1) + nI 1), lv)) := m_setN X d im lw tl iv lv (i := 1) (by decide)
theorem c_rf2 {X : XE} (hX : XOK X) (d : Nat) (im lw : List (Option Nat)) (tl : List XC) (iv : Nat → Nat → Int32) (lv : Nat → Nat → Int64) : call X xT (d + 1) 16 [.inr (.inr (some 0)), .inl (-3)] (SS im lw tl, iv, lv) = some (some (.inl (rcode 2)), (SS im lw tl, upd2 (upd2 iv 0 17 (rcode 2)) 45 2 (iv 45 2 + nI 1), lv)) := c_refused hX d im lw tl iv lv (i := 2) (by decide)
theorem m_rf2 (X : XE) (d : Nat) (im lw : List (Option Nat)) (tl : List XC) (iv : Nat → Nat → Int32) (lv : Nat → Nat → Int64) : call X xT (d + 1) 198 [.inr (.inr (some 46)), .inl (-3)] (SS im lw tl, iv, lv) = some (some (.inl (rcode 2)), (SS im lw tl, upd2 (upd2 iv 46 1 (rcode 2)) 47 (ri 2) (iv 47 (ri 2) + nI 1), lv)) := m_tellN X d im lw tl iv lv (i := 2) (by decide)
theorem m_sf2 (X : XE) (d : Nat) (im lw : List (Option Nat)) (tl : List XC) (iv : Nat → Nat → Int32) (lv : Nat → Nat → Int64) : call X xT (d + 2) 203 [.inr (.inr (some 46)), .inl (-3)] (SS im lw tl, iv, lv) = some (some (.inl (rcode 2)), (SS im lw tl, upd2 (upd2 iv 46 1 (rcode 2)) 47 (ri 2) (iv 47 (ri 2) + nI 1), lv)) := m_setN X d im lw tl iv lv (i := 2) (by decide)
theorem c_rf3 {X : XE} (hX : XOK X) (d : Nat) (im lw : List (Option Nat)) (tl : List XC) (iv : Nat → Nat → Int32) (lv : Nat → Nat → Int64) : call X xT (d + 1) 16 [.inr (.inr (some 0)), .inl (-5)] (SS im lw tl, iv, lv) = some (some (.inl (rcode 3)), (SS im lw tl, upd2 (upd2 iv 0 17 (rcode 3)) 45 3 (iv 45 3 + nI 1), lv)) := c_refused hX d im lw tl iv lv (i := 3) (by decide)
theorem m_rf3 (X : XE) (d : Nat) (im lw : List (Option Nat)) (tl : List XC) (iv : Nat → Nat → Int32) (lv : Nat → Nat → Int64) : call X xT (d + 1) 198 [.inr (.inr (some 46)), .inl (-5)] (SS im lw tl, iv, lv) = some (some (.inl (rcode 3)), (SS im lw tl, upd2 (upd2 iv 46 1 (rcode 3)) 47 (ri 3) (iv 47 (ri 3) + nI 1), lv)) := m_tellN X d im lw tl iv lv (i := 3) (by decide)
theorem m_sf3 (X : XE) (d : Nat) (im lw : List (Option Nat)) (tl : List XC) (iv : Nat → Nat → Int32) (lv : Nat → Nat → Int64) : call X xT (d + 2) 203 [.inr (.inr (some 46)), .inl (-5)] (SS im lw tl, iv, lv) = some (some (.inl (rcode 3)), (SS im lw tl, upd2 (upd2 iv 46 1 (rcode 3)) 47 (ri 3) (iv 47 (ri 3) + nI 1), lv)) := m_setN X d im lw tl iv lv (i := 3) (by decide)
theorem c_rf4 {X : XE} (hX : XOK X) (d : Nat) (im lw : List (Option Nat)) (tl : List XC) (iv : Nat → Nat → Int32) (lv : Nat → Nat → Int64) : call X xT (d + 1) 16 [.inr (.inr (some 0)), .inl (-6)] (SS im lw tl, iv, lv) = some (some (.inl (rcode 4)), (SS im lw tl, upd2 (upd2 iv 0 17 (rcode 4)) 45 4 (iv 45 4 + nI 1), lv)) := c_refused hX d im lw tl iv lv (i := 4) (by decide)
theorem m_rf4 (X : XE) (d : Nat) (im lw : List (Option Nat)) (tl : List XC) (iv : Nat → Nat → Int32) (lv : Nat → Nat → Int64) : call X xT (d + 1) 198 [.inr (.inr (some 46)), .inl (-6)] (SS im lw tl, iv, lv) = some (some (.inl (rcode 4)), (SS im lw tl, upd2 (upd2 iv 46 1 (rcode 4)) 47 (ri 4) (iv 47 (ri 4) + nI 1), lv)) := m_tellN X d im lw tl iv lv (i := 4) (by decide)
theorem m_sf4 (X : XE) (d : Nat) (im lw : List (Option Nat)) (tl : List XC) (iv : Nat → Nat → Int32) (lv : Nat → Nat → Int64) : call X xT (d + 2) 203 [.inr (.inr (some 46)), .inl (-6)] (SS im lw tl, iv, lv) = some (some (.inl (rcode 4)), (SS im lw tl, upd2 (upd2 iv 46 1 (rcode 4)) 47 (ri 4) (iv 47 (ri 4) + nI 1), lv)) := m_setN X d im lw tl iv lv (i := 4) (by decide)
def CR' (im lw : List (Option Nat)) (tl : List XC) (iv : Nat → Nat → Int32) (lv : Nat → Nat → Int64) (r : Option XR) (p : Int32 × St) : Prop := ∃ iv' lv', r = some (some (.inl p.1), (SS im lw tl, iv', lv')) ∧ RelC p.2 im lw tl iv' ∧ midI iv iv' ∧ midL lv lv'
def MR' (im lw : List (Option Nat)) (tl : List XC) (iv : Nat → Nat → Int32) (r : Option XR) (p : Int32 × St) : Prop := ∃ iv' lv', r = some (some (.inl p.1), (SS im lw tl, iv', lv')) ∧ RelM p.2 iv' lv' ∧ outI iv iv'
theorem cq {im lw : List (Option Nat)} {tl : List XC} {iv : Nat → Nat → Int32} {lv : Nat → Nat → Int64} {A : St} (h : RelC A im lw tl iv) {r : Option XR} {v : Int32} (e : r = some (some (.inl v), (SS im lw tl, iv, lv))) : CR' im lw tl iv lv r (v, A) := ⟨iv, lv, e, h, midI.rf, midL.rf⟩
theorem cq2 {im lw : List (Option Nat)} {tl : List XC} {iv iv' : Nat → Nat → Int32} {lv lv' : Nat → Nat → Int64} {A : St} (h : RelC A im lw tl iv) (a : agC iv iv') (b : agL lv lv') {r : Option XR} {v : Int32} (e : r = some (some (.inl v), (SS im lw tl, iv', lv'))) : CR' im lw tl iv lv r (v, A) := ⟨iv', lv', e, h.ag a, a.mid, b.mid⟩
theorem crf {im lw : List (Option Nat)} {tl : List XC} {iv : Nat → Nat → Int32} {lv : Nat → Nat → Int64} {A : St} (h : RelC A im lw tl iv) {i : Nat} (hi : i < 5) {r : Option XR} (e : r = some (some (.inl (rcode i)), (SS im lw tl, upd2 (upd2 iv 0 17 (rcode i)) 45 i (iv 45 i + nI 1), lv))) : CR' im lw tl iv lv r (rfs i A) := ⟨_, lv, e, h.rfs hi, (mid_upd _ _ _ (by decide)).tr (mid_upd _ _ _ (by decide)), midL.rf⟩
theorem crf2 {im lw : List (Option Nat)} {tl : List XC} {iv iv' : Nat → Nat → Int32} {lv lv' : Nat → Nat → Int64} {A : St} (h : RelC A im lw tl iv') (m1 : midI iv iv') (m2 : midL lv lv') {i : Nat} (hi : i < 5) {r : Option XR} (e : r = some (some (.inl (rcode i)), (SS im lw tl, upd2 (upd2 iv' 0 17 (rcode i)) 45 i (iv' 45 i + nI 1), lv'))) : CR' im lw tl iv lv r (rfs i A) := ⟨_, lv', e, h.rfs hi, m1.tr ((mid_upd _ _ _ (by decide)).tr (mid_upd _ _ _ (by decide))), m2⟩
theorem mq {im lw : List (Option Nat)} {tl : List XC} {iv : Nat → Nat → Int32} {lv : Nat → Nat → Int64} {A : St} (h : RelM A iv lv) {r : Option XR} {v : Int32} (e : r = some (some (.inl v), (SS im lw tl, upd2 iv 46 0 (nI 0), lv))) : MR' im lw tl iv r (v, A) := ⟨_, lv, e, h.thr _, out_upd _ _ _ (by decide) (by decide)⟩
theorem mq2 {im lw : List (Option Nat)} {tl : List XC} {iv iv' : Nat → Nat → Int32} {lv lv' : Nat → Nat → Int64} {A : St} (h : RelM A iv lv) (a : agM (upd2 iv 46 0 (nI 0)) iv') (b : agN lv lv') {r : Option XR} {v : Int32} (e : r = some (some (.inl v), (SS im lw tl, iv', lv'))) : MR' im lw tl iv r (v, A) := ⟨iv', lv', e, (h.thr _).ag a b, (out_upd _ _ _ (by decide) (by decide)).tr a.out⟩
theorem mrf {im lw : List (Option Nat)} {tl : List XC} {iv iv' : Nat → Nat → Int32} {lv' : Nat → Nat → Int64} {A : St} (h : RelM A iv' lv') (ho : outI iv iv') {i : Nat} (hi : i < 5) {r : Option XR} (e : r = some (some (.inl (rcode i)), (SS im lw tl, upd2 (upd2 iv' 46 1 (rcode i)) 47 (ri i) (iv' 47 (ri i) + nI 1), lv'))) : MR' im lw tl iv r (rfs i A) := ⟨_, lv', e, h.rfs hi, ho.tr ((out_upd _ _ _ (by decide) (by decide)).tr (out_upd _ _ _ (by decide) (by decide)))⟩
theorem out0 (iv : Nat → Nat → Int32) : outI iv (upd2 iv 46 0 (nI 0)) := out_upd _ _ _ (by decide) (by decide)
theorem cfacts {A : St} {im lw : List (Option Nat)} {tl : List XC} {iv : Nat → Nat → Int32} (h : RelC A im lw tl iv) (ho : OKA A) : iv 3 0 = nI (nP A.1.1) ∧ nP A.1.1 ≤ 6 ∧ iv 3 1 = nI (nT A.1.1) ∧ nT A.1.1 ≤ 4 ∧ okS A.1.1 := by
  have hk : okS A.1.1 := ho.1.1.1
  refine ⟨?_, hk.np.2, ?_, hk.nt.2, hk⟩
  · rw [h.eq 0 (by omega)]; exact hk.np.1
  · rw [h.eq 1 (by omega)]; exact hk.nt.1
theorem mfacts {A : St} {iv : Nat → Nat → Int32} {lv : Nat → Nat → Int64} (h : RelM A iv lv) (ho : OKA A) : iv 48 0 = nI (nP A.1.1) ∧ nP A.1.1 ≤ 6 ∧ iv 48 1 = nI (nT A.1.1) ∧ nT A.1.1 ≤ 4 ∧ okS A.1.1 ∧ eqS A.1.1 (fM (iv 48)) ∧ okS (fM (iv 48)) ∧ iv 46 20 = nI 0 := by
  have hk : okS A.1.1 := ho.1.1.1
  have he : eqS A.1.1 (fM (iv 48)) := h.1.1
  refine ⟨?_, hk.np.2, ?_, hk.nt.2, hk, he, hk.eq he, h.2.2.2.2.2.2.1⟩
  · exact (he 0 (by omega)).symm.trans hk.np.1
  · exact (he 1 (by omega)).symm.trans hk.nt.1
theorem up0 (iv : Nat → Nat → Int32) {a : Nat} (h : a ≠ 46) : (upd2 iv 46 0 (nI 0)) a = iv a := upd2_off _ _ _ _ h
theorem up0f (iv : Nat → Nat → Int32) {k : Nat} (h : k ≠ 0) : (upd2 iv 46 0 (nI 0)) 46 k = iv 46 k := upd2_ne _ _ _ _ (by omega)
/-- of -/
def sp_of (p w : Int32) (A : St) : Int32 × St := (if hasV (nI (nP A.1.1)) p = true then (if w.toInt = 0 then A.1.1 (5 + p.toNatClampNeg) else if w.toInt = 1 then A.1.1 (11 + p.toNatClampNeg) else if w.toInt = 2 then A.1.1 (17 + p.toNatClampNeg) else if w.toInt = 3 then growV A.1.1 (lawOf A.1).1 (lawOf A.1).2 p.toNatClampNeg else if w.toInt = 4 then A.1.2.2.1 p.toNatClampNeg else -1) else -1, A)
theorem C_of (p w : Int32) : CSpec 23 [.inl p, .inl w] (sp_of p w) := by
  intro X hX d im lw tl iv lv A h ho
  show CR' im lw tl iv lv _ _
  obtain ⟨p0, p1, t0, t1, hk⟩ := cfacts h ho
  have e := h.eq
  rw [tr23, c_hasP (sc2 im lw tl), bI_some, sg23_13, b2i_ite, p0]
  unfold sp_of
  by_cases hp : hasV (nI (nP A.1.1)) p = true
  · rw [if_pos hp, if_pos hp]
    obtain ⟨m, hm, rfl⟩ := hasV_of (by omega) hp
    rw [nI_clamp (show m < 2 ^ 31 by omega)]
    by_cases w0 : w.toInt = 0
    · rw [if_pos w0, if_pos w0]
      exact cq h (by rw [c_get0 (sc2 im lw tl) (by omega), bI_some, sg23_58, e _ (by omega)])
    rw [if_neg w0, if_neg w0]
    by_cases w1 : w.toInt = 1
    · rw [if_pos w1, if_pos w1]
      exact cq h (by rw [c_get0 (sc2 im lw tl) (by omega), bI_some, sg23_66, e _ (by omega)])
    rw [if_neg w1, if_neg w1]
    by_cases w2 : w.toInt = 2
    · rw [if_pos w2, if_pos w2]
      exact cq h (by rw [c_get0 (sc2 im lw tl) (by omega), bI_some, sg23_74, e _ (by omega)])
    rw [if_neg w2, if_neg w2]
    by_cases w3 : w.toInt = 3
    · rw [if_pos w3, if_pos w3]
      obtain ⟨r, r1, r2⟩ := c_force (X := X) (d := d + 37) (lv := lv) h ho
      obtain ⟨iv', lv', g1, g2, g3⟩ := c_growth X (d + 35) im lw tl iv lv (sc2 im lw tl) (by decide) (r2 iv (fun _ _ => rfl)).S (p := m) (by omega)
      exact cq2 h g2 g3 (by rw [r1, bR_some, sg23_87, g1, bI_some, sg23_91, growV_eq e _ _ (by omega)])
    rw [if_neg w3, if_neg w3]
    by_cases w4 : w.toInt = 4
    · rw [if_pos w4, if_pos w4]
      exact cq h (by rw [tr42, if_neg (nI_pos (by omega)), if_neg (nI_ge (show m < 6 by omega) (by omega)), if_pos (inb_nI (by omega) (by omega)), bI_some, sg23_100, nI_clamp (by omega), h.2.1.2.2.2.1 m (by omega)])
    rw [if_neg w4, if_neg w4]
    exact cq h rfl
  · rw [if_neg hp, if_neg hp]
    exact cq h rfl
theorem M_of (p w : Int32) : MSpec 208 [.inl p, .inl w] (sp_of p w) := by
  intro X d im lw tl iv lv A h ho
  show MR' im lw tl iv _ _
  obtain ⟨p0, p1, t0, t1, hk, he, hk2, h20⟩ := mfacts h ho
  rw [tr208, m_isP X (d + 37) im lw tl _ lv p1 (by rw [up0 _ (by decide)]; exact p0), bI_some, sg208_10, b2i_ite]
  unfold sp_of
  by_cases hp : hasV (nI (nP A.1.1)) p = true
  · rw [if_pos hp, if_pos hp]
    obtain ⟨m, hm, rfl⟩ := hasV_of (by omega) hp
    rw [nI_clamp (show m < 2 ^ 31 by omega), nI_add, nI_add, nI_add, nI_add, if_pos (ib5k (by omega)), if_pos (ib5k (by omega)), if_pos (ib5k (by omega)), if_pos (ib5k (by omega)), nI_clamp (by omega), nI_clamp (by omega), nI_clamp (by omega), nI_clamp (by omega), up0 _ (by decide)]
    by_cases w0 : w.toInt = 0
    · rw [if_pos w0, if_pos w0]
      exact mq h (by rw [he _ (by omega), fM, mx_h (by omega)])
    rw [if_neg w0, if_neg w0]
    by_cases w1 : w.toInt = 1
    · rw [if_pos w1, if_pos w1]
      exact mq h (by rw [he _ (by omega), fM, mx_t (by omega)])
    rw [if_neg w1, if_neg w1]
    by_cases w2 : w.toInt = 2
    · rw [if_pos w2, if_pos w2]
      exact mq h (by rw [he _ (by omega), fM, mx_b (by omega)])
    rw [if_neg w2, if_neg w2]
    by_cases w3 : w.toInt = 3
    · rw [if_pos w3, if_pos w3]
      obtain ⟨iv', lv', g1, g2, g3⟩ := m_hungers X (d + 34) im lw tl (upd2 iv 46 0 (nI 0)) lv (by rw [up0f _ (by decide)]; exact h20) (by rw [up0 _ (by decide)]; exact h.lawG ho) (p := m) (by omega)
      exact mq2 h g2 g3 (by rw [g1, bI_some, sg208_87, up0 _ (by decide), growV_eq he _ _ (by omega)])
    rw [if_neg w3, if_neg w3]
    by_cases w4 : w.toInt = 4
    · rw [if_pos w4, if_pos w4]
      exact mq h (by rw [h.1.2.2.2.1 m (by omega)])
    rw [if_neg w4, if_neg w4]
    exact mq h rfl
  · rw [if_neg hp, if_neg hp]
    exact mq h rfl
/-- at -/
def sp_at (p w : Int32) (A : St) : Int32 × St := (if hasV (nI (nT A.1.1)) p = true then (if w.toInt = 0 then A.1.1 (23 + p.toNatClampNeg) else if w.toInt = 1 then A.1.1 (27 + p.toNatClampNeg) else if w.toInt = 2 then A.1.1 (31 + p.toNatClampNeg) else if w.toInt = 3 then wageV A.1.1 (lawOf A.1).1 (lawOf A.1).2 p.toNatClampNeg else -1) else -1, A)
theorem C_at (p w : Int32) : CSpec 46 [.inl p, .inl w] (sp_at p w) := by
  intro X hX d im lw tl iv lv A h ho
  show CR' im lw tl iv lv _ _
  obtain ⟨p0, p1, t0, t1, hk⟩ := cfacts h ho
  have e := h.eq
  rw [tr46, c_hasT (sc2 im lw tl), bI_some, sg46_13, b2i_ite, t0]
  unfold sp_at
  by_cases hp : hasV (nI (nT A.1.1)) p = true
  · rw [if_pos hp, if_pos hp]
    obtain ⟨m, hm, rfl⟩ := hasV_of (by omega) hp
    rw [nI_clamp (show m < 2 ^ 31 by omega)]
    by_cases w0 : w.toInt = 0
    · rw [if_pos w0, if_pos w0]
      exact cq h (by rw [c_get0 (sc2 im lw tl) (by omega), bI_some, sg46_55, e _ (by omega)])
    rw [if_neg w0, if_neg w0]
    by_cases w1 : w.toInt = 1
    · rw [if_pos w1, if_pos w1]
      exact cq h (by rw [c_get0 (sc2 im lw tl) (by omega), bI_some, sg46_63, e _ (by omega)])
    rw [if_neg w1, if_neg w1]
    by_cases w2 : w.toInt = 2
    · rw [if_pos w2, if_pos w2]
      exact cq h (by rw [c_get0 (sc2 im lw tl) (by omega), bI_some, sg46_71, e _ (by omega)])
    rw [if_neg w2, if_neg w2]
    by_cases w3 : w.toInt = 3
    · rw [if_pos w3, if_pos w3]
      obtain ⟨r, r1, r2⟩ := c_force (X := X) (d := d + 37) (lv := lv) h ho
      obtain ⟨iv', lv', g1, g2, g3⟩ := c_wage X (d + 35) im lw tl iv lv (sc2 im lw tl) (by decide) (r2 iv (fun _ _ => rfl)).S (t := m) (by omega)
      exact cq2 h g2 g3 (by rw [r1, bR_some, sg46_84, g1, bI_some, sg46_88, wageV_eq e _ _ (by omega)])
    rw [if_neg w3, if_neg w3]
    exact cq h rfl
  · rw [if_neg hp, if_neg hp]
    exact cq h rfl
theorem M_at (p w : Int32) : MSpec 219 [.inl p, .inl w] (sp_at p w) := by
  intro X d im lw tl iv lv A h ho
  show MR' im lw tl iv _ _
  obtain ⟨p0, p1, t0, t1, hk, he, hk2, h20⟩ := mfacts h ho
  rw [tr219, m_isT X (d + 37) im lw tl _ lv t1 (by rw [up0 _ (by decide)]; exact t0), bI_some, sg219_10, b2i_ite]
  unfold sp_at
  by_cases hp : hasV (nI (nT A.1.1)) p = true
  · rw [if_pos hp, if_pos hp]
    obtain ⟨m, hm, rfl⟩ := hasV_of (by omega) hp
    rw [nI_clamp (show m < 2 ^ 31 by omega), nI_add, nI_add, nI_add, if_pos (ib5k (by omega)), if_pos (ib5k (by omega)), if_pos (ib5k (by omega)), nI_clamp (by omega), nI_clamp (by omega), nI_clamp (by omega), up0 _ (by decide)]
    by_cases w0 : w.toInt = 0
    · rw [if_pos w0, if_pos w0]
      exact mq h (by rw [he _ (by omega), fM, mx_n (by omega)])
    rw [if_neg w0, if_neg w0]
    by_cases w1 : w.toInt = 1
    · rw [if_pos w1, if_pos w1]
      exact mq h (by rw [he _ (by omega), fM, mx_m (by omega)])
    rw [if_neg w1, if_neg w1]
    by_cases w2 : w.toInt = 2
    · rw [if_pos w2, if_pos w2]
      exact mq h (by rw [he _ (by omega), fM, mx_a (by omega)])
    rw [if_neg w2, if_neg w2]
    by_cases w3 : w.toInt = 3
    · rw [if_pos w3, if_pos w3]
      obtain ⟨iv', lv', g1, g2, g3⟩ := m_pays X (d + 34) im lw tl (upd2 iv 46 0 (nI 0)) lv (by rw [up0f _ (by decide)]; exact h20) (by rw [up0 _ (by decide)]; exact h.lawG ho) (t := m) (by omega)
      exact mq2 h g2 g3 (by rw [g1, bI_some, sg219_83, up0 _ (by decide), wageV_eq he _ _ (by omega)])
    rw [if_neg w3, if_neg w3]
    exact mq h rfl
  · rw [if_neg hp, if_neg hp]
    exact mq h rfl
/-- asks -/
def sp_asks (t p w : Int32) (A : St) : Int32 × St := (if hasV (nI (nT A.1.1)) t = true then (if hasV (nI (nP A.1.1)) p = true then (if w.toInt = 0 then A.1.1 (35 + (t.toNatClampNeg * 6 + p.toNatClampNeg)) else if w.toInt = 1 then angV A.1.1 (lawOf A.1).1 (lawOf A.1).2 t.toNatClampNeg p.toNatClampNeg else if w.toInt = 2 then b2i (barV A.1.1 (lawOf A.1).1 (lawOf A.1).2 t.toNatClampNeg p.toNatClampNeg) else if w.toInt = 3 then b2i (loyV A.1.1 (lawOf A.1).1 (lawOf A.1).2 t.toNatClampNeg p.toNatClampNeg) else if w.toInt = 4 then reaV A.1.1 (lawOf A.1).1 (lawOf A.1).2 t.toNatClampNeg p.toNatClampNeg else -1) else -1) else -1, A)
theorem b2i_10 (c : Bool) : (if c = true then nI 1 else nI 0) = b2i c := rfl
theorem some_ite (c : Bool) (h : XH) : (if b2i c = 0 then some (some (.inl (nI 0)), h) else some (some (.inl (nI 1)), h) : Option XR) = some (some (.inl (b2i c)), h) := by cases c <;> rfl
theorem C_asks (t p w : Int32) : CSpec 49 [.inl t, .inl p, .inl w] (sp_asks t p w) := by
  intro X hX d im lw tl iv lv A h ho
  show CR' im lw tl iv lv _ _
  obtain ⟨p0, p1, t0, t1, hk⟩ := cfacts h ho
  have e := h.eq
  rw [tr49, c_hasT (sc2 im lw tl), bI_some, sg49_15, b2i_ite, t0]
  unfold sp_asks
  by_cases ht : hasV (nI (nT A.1.1)) t = true
  · rw [if_pos ht, if_pos ht, c_hasP (sc2 im lw tl), bI_some, sg49_24, b2i_ite, p0]
    by_cases hp : hasV (nI (nP A.1.1)) p = true
    · rw [if_pos hp, if_pos hp]
      obtain ⟨m, hm, rfl⟩ := hasV_of (by omega) hp
      obtain ⟨q, hq, rfl⟩ := hasV_of (by omega) ht
      obtain ⟨r, r1, r2⟩ := c_force (X := X) (d := d + 37) (lv := lv) h ho
      rw [nI_clamp (show m < 2 ^ 31 by omega), nI_clamp (show q < 2 ^ 31 by omega), r1, bR_some, sg49_36]
      have hl := (r2 iv (fun _ _ => rfl)).S
      by_cases w0 : w.toInt = 0
      · rw [if_pos w0, if_pos w0]
        exact cq h (by rw [c_mem0 (sc2 im lw tl) (by omega) (by omega), bI_some, sg49_79, e _ (by omega)])
      rw [if_neg w0, if_neg w0]
      by_cases w1 : w.toInt = 1
      · rw [if_pos w1, if_pos w1]
        obtain ⟨iv', lv', g1, g2, g3⟩ := c_anger X (d + 35) im lw tl iv lv (sc2 im lw tl) (by decide) hl (t := q) (p := m) (by omega) (by omega)
        exact cq2 h g2 g3 (by rw [g1, bI_some, sg49_93, angV_eq e _ _ (by omega) (by omega)])
      rw [if_neg w1, if_neg w1]
      by_cases w2 : w.toInt = 2
      · rw [if_pos w2, if_pos w2]
        obtain ⟨iv', lv', g1, g2, g3⟩ := c_barred X (d + 35) im lw tl iv lv (sc2 im lw tl) (by decide) hl (t := q) (p := m) (by omega) (by omega)
        exact cq2 h g2 g3 (by rw [g1, bI_some, sg49_107, some_ite, barV_eq e _ _ (by omega) (by omega)])
      rw [if_neg w2, if_neg w2]
      by_cases w3 : w.toInt = 3
      · rw [if_pos w3, if_pos w3]
        obtain ⟨iv', lv', g1, g2, g3⟩ := c_loyal X (d + 34) im lw tl iv lv (sc2 im lw tl) (by decide) hl (t := q) (p := m) (by omega) (by omega)
        exact cq2 h g2 g3 (by rw [g1, bI_some, sg49_129, some_ite, loyV_eq e _ _ (by omega) (by omega)])
      rw [if_neg w3, if_neg w3]
      by_cases w4 : w.toInt = 4
      · rw [if_pos w4, if_pos w4]
        obtain ⟨iv', lv', g1, g2, g3⟩ := c_react X (d + 34) im lw tl iv lv (sc2 im lw tl) (by decide) hl (t := q) (p := m) (by omega) (by omega)
        exact cq2 h g2 g3 (by rw [g1, bI_some, sg49_151, reaV_eq e _ _ (by omega) (by omega)])
      rw [if_neg w4, if_neg w4]
      exact cq h rfl
    · rw [if_neg hp, if_neg hp]
      exact cq h rfl
  · rw [if_neg ht, if_neg ht]
    exact cq h rfl
theorem M_asks (t p w : Int32) : MSpec 221 [.inl t, .inl p, .inl w] (sp_asks t p w) := by
  intro X d im lw tl iv lv A h ho
  show MR' im lw tl iv _ _
  obtain ⟨p0, p1, t0, t1, hk, he, hk2, h20⟩ := mfacts h ho
  have r0 : (upd2 iv 46 0 (nI 0)) 48 = iv 48 := up0 _ (by decide)
  have g20 : (upd2 iv 46 0 (nI 0)) 46 20 = nI 0 := by rw [up0f _ (by decide)]; exact h20
  have hl : lawG ((upd2 iv 46 0 (nI 0)) 48) (lawOf A.1).1 (lawOf A.1).2 := by rw [r0]; exact h.lawG ho
  have hk3 : okS (fM ((upd2 iv 46 0 (nI 0)) 48)) := by rw [r0]; exact hk2
  rw [tr221, m_isT X (d + 37) im lw tl _ lv t1 (by rw [up0 _ (by decide)]; exact t0), bI_some, sg221_10, b2i_ite]
  unfold sp_asks
  by_cases ht : hasV (nI (nT A.1.1)) t = true
  · rw [if_pos ht, if_pos ht, m_isP X (d + 37) im lw tl _ lv p1 (by rw [up0 _ (by decide)]; exact p0), bI_some, sg221_18, b2i_ite]
    by_cases hp : hasV (nI (nP A.1.1)) p = true
    · rw [if_pos hp, if_pos hp]
      obtain ⟨m, hm, rfl⟩ := hasV_of (by omega) hp
      obtain ⟨q, hq, rfl⟩ := hasV_of (by omega) ht
      rw [nI_clamp (show m < 2 ^ 31 by omega), nI_clamp (show q < 2 ^ 31 by omega), pk_mul, nI_add, nI_add, if_pos (ib5k (by omega)), nI_clamp (by omega), r0]
      by_cases w0 : w.toInt = 0
      · rw [if_pos w0, if_pos w0]
        exact mq h (by rw [he _ (by omega), fM, mx_y (by omega) (by omega)])
      rw [if_neg w0, if_neg w0]
      by_cases w1 : w.toInt = 1
      · rw [if_pos w1, if_pos w1]
        obtain ⟨iv', lv', g1, g2, g3⟩ := m_angers X (d + 34) im lw tl (upd2 iv 46 0 (nI 0)) lv g20 hl hk3 (t := q) (p := m) (by omega) (by omega)
        exact mq2 h g2 g3 (by rw [g1, bI_some, sg221_81, r0, angV_eq he _ _ (by omega) (by omega)])
      rw [if_neg w1, if_neg w1]
      by_cases w2 : w.toInt = 2
      · rw [if_pos w2, if_pos w2]
        obtain ⟨iv', lv', g1, g2, g3⟩ := m_barred X (d + 34) im lw tl (upd2 iv 46 0 (nI 0)) lv g20 hl (t := q) (p := m) (by omega) (by omega)
        exact mq2 h g2 g3 (by rw [g1, bI_some, sg221_88, some_ite, r0, barV_eq he _ _ (by omega) (by omega)])
      rw [if_neg w2, if_neg w2]
      by_cases w3 : w.toInt = 3
      · rw [if_pos w3, if_pos w3]
        obtain ⟨iv', lv', g1, g2, g3⟩ := m_loyal X (d + 33) im lw tl (upd2 iv 46 0 (nI 0)) lv g20 hl hk3 (t := q) (p := m) (by omega) (by omega)
        exact mq2 h g2 g3 (by rw [g1, bI_some, sg221_103, some_ite, r0, loyV_eq he _ _ (by omega) (by omega)])
      rw [if_neg w3, if_neg w3]
      by_cases w4 : w.toInt = 4
      · rw [if_pos w4, if_pos w4]
        obtain ⟨iv', lv', g1, g2, g3⟩ := m_would X (d + 33) im lw tl (upd2 iv 46 0 (nI 0)) lv g20 hl hk3 (t := q) (p := m) (by omega) (by omega)
        exact mq2 h g2 g3 (by rw [g1, bI_some, sg221_118, r0, reaV_eq he _ _ (by omega) (by omega)])
      rw [if_neg w4, if_neg w4]
      exact mq h rfl
    · rw [if_neg hp, if_neg hp]
      exact mq h rfl
  · rw [if_neg ht, if_neg ht]
    exact mq h rfl
theorem S_of (p w : Int32) : stepOK 23 208 [.inl p, .inl w] := step_of (C_of p w) (M_of p w) (fun _ h => h)
theorem S_at (p w : Int32) : stepOK 46 219 [.inl p, .inl w] := step_of (C_at p w) (M_at p w) (fun _ h => h)
theorem S_asks (t p w : Int32) : stepOK 49 221 [.inl t, .inl p, .inl w] := step_of (C_asks t p w) (M_asks t p w) (fun _ h => h)
