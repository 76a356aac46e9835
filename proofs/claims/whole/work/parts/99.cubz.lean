/-! cubs: the reference's count over all rows -/
theorem in_m1 (x : Int32) {b : Nat} (hb : b ≤ 4) : decide (lN 18446744073709551615 ≤ x.toInt64 ∧ x.toInt64 ≤ (nI b).toInt64 - lN 1) = decide (x = -1 ∨ inV x (nI b - nI 1) = true) := by
  unfold inV
  refine decide_eq_decide.mpr ?_
  have e : ((nI b).toInt64 - lN 1).toInt = (b : Int) - 1 := by
    rw [nI_l (by omega), Int64.toInt_sub, lN_toInt (by omega), lN_toInt (by decide), Int.bmod_def]
    omega
  have e2 : (nI b - nI 1).toInt = (b : Int) - 1 := by
    rw [Int32.toInt_sub, nI_toInt (by omega), nI_toInt (by omega), Int.bmod_def]
    omega
  have e3 : (lN 18446744073709551615).toInt = -1 := by decide
  have e4 : (x = -1) ↔ x.toInt = -1 := by
    rw [← Int32.toInt_inj]
    exact ⟨fun z => z.trans (by decide), fun z => z.trans (by decide)⟩
  rw [decide_eq_true_eq, fb_le64, fb_le64, fb_lt, fb_lt, e, e2, e3, e4, Int32.toInt_toInt64, show (0 : Int32).toInt = 0 by decide]
  omega
def cubX (A : St) (t days x : Nat) : Lf := cubM A t days (0, rowOf (nP A.1.1 + 1) (fun _ => 0) 0 days x)
theorem cubL_is (A : St) (t days : Nat) : cubL A t days = (List.range ((nP A.1.1 + 1) ^ days)).map (cubX A t days) := by
  unfold cubL
  rw [lev_row_all (by omega), List.map_map]
  rfl
theorem rg_cons {α : Type} (g : Nat → α) (x k : Nat) : (List.range (k + 1)).map (fun y => g (x + y)) = g x :: (List.range k).map (fun y => g (x + 1 + y)) := by
  rw [List.range_succ_eq_map, List.map_cons, List.map_map, Nat.add_zero]
  congr 1
  apply List.map_congr_left
  intro y _
  show g (x + (y + 1)) = g (x + 1 + y)
  congr 1; omega
theorem bst_cons (o : Option Lf) (l : Lf) (L : List Lf) : bst o (l :: L) = bst (bst1 o l) L := rfl
theorem m_cub_loop (X : XE) (d : Nat) (im lw : List (Option Nat)) (tl : List XC) {A : St} (ho : OKA A) {t days : Nat} (ht : t < 4) (hd : days ≤ 4) {i : Int32} (hi : i = -1 ∨ ∃ e, e < days ∧ i = nI e) : ∀ (k x bc : Nat) (o : Option Lf) (iv : Nat → Nat → Int32) (lv : Nat → Nat → Int64) (w7 : Option XV), x + k = (nP A.1.1 + 1) ^ days → RelM A iv lv → (∀ b, o = some b → b = cubX A t days bc ∧ bc < 100000) → (o = none → 0 < k) → ∃ iv' lv', run X (call X xT (d + 8)) false 1 xc302 51 [some (.inr (.inr (some 46))), some (.inl (nI t)), some (.inl (nI days)), some (.inl i), some (.inl (gB (nP A.1.1) o)), some (.inl (nI bc)), some (.inl (nI x)), w7] [] (SS im lw tl, iv, lv) = some (some (.inl (cubV (nP A.1.1) (bst o ((List.range k).map (fun y => cubX A t days (x + y)))) i)), (SS im lw tl, iv', lv')) ∧ RelM A iv' lv' ∧ outI iv iv' := by
  have n6 : nP A.1.1 ≤ 6 := ho.1.1.1.np.2
  have K7 : (nP A.1.1 + 1) ^ days ≤ 2401 := by
    have h1 : (nP A.1.1 + 1) ^ days ≤ 7 ^ days := Nat.pow_le_pow_left (by omega) _
    have h2 : 7 ^ days ≤ 7 ^ 4 := Nat.pow_le_pow_right (by omega) (by omega)
    have h3 : (7 : Nat) ^ 4 = 2401 := by decide
    omega
  have wl : ∀ r, cubW A t days r ≤ nP A.1.1 := fun r => loyN_le _ _ _
  intro k
  induction k with
  | zero =>
    intro x bc o iv lv w7 hx h hb hne
    obtain ⟨p0, -⟩ := mfacts h ho
    have : x = (nP A.1.1 + 1) ^ days := by omega
    subst this
    cases o with
    | none => exact absurd (hne rfl) (by omega)
    | some b =>
      obtain ⟨eb, hbc⟩ := hb b rfl
      rw [sg302_51, m_pow X (d + 7) im lw tl iv lv n6 hd p0, bI_some, sg302_58, if_pos (nI_le (by omega) (by omega))]
      rw [show cubV (nP A.1.1) (bst (some b) ((List.range 0).map (fun y => cubX A t days ((nP A.1.1 + 1) ^ days + y)))) i = if i = -1 then nI (nP A.1.1 - b.1) else cvR (nP A.1.1) (b.2 i.toNatClampNeg) from rfl]
      rcases hi with e | ⟨e, he, ee⟩
      · rw [if_pos e, if_pos e]; exact ⟨iv, lv, rfl, h, outI.rf⟩
      · have ni : ¬ i = -1 := by rw [ee]; exact nI_m1 (by omega)
        have pp : 0 < (nP A.1.1 + 1) ^ (days - 1 - e) := Nat.pow_pos (by omega)
        have pl : (nP A.1.1 + 1) ^ (days - 1 - e) ≤ 2401 := by
          have h1 : (nP A.1.1 + 1) ^ (days - 1 - e) ≤ 7 ^ (days - 1 - e) := Nat.pow_le_pow_left (by omega) _
          have h2 : 7 ^ (days - 1 - e) ≤ 7 ^ 4 := Nat.pow_le_pow_right (by omega) (by omega)
          have h3 : (7 : Nat) ^ 4 = 2401 := by decide
          omega
        have z1 : ∀ {m : Nat}, 0 < m → m < 2 ^ 31 → ¬ nI m = 0 := fun {m} h1 h2 e => by
          have := congrArg Int32.toNatClampNeg e
          rw [nI_clamp h2] at this
          have : m = 0 := this
          omega
        have dl : bc / (nP A.1.1 + 1) ^ (days - 1 - e) < 2 ^ 31 := by have := Nat.div_le_self bc ((nP A.1.1 + 1) ^ (days - 1 - e)); omega
        have re : b.2 e = nI (bc / (nP A.1.1 + 1) ^ (days - 1 - e) % (nP A.1.1 + 1)) := by
          rw [eb, show (cubX A t days bc).2 = rowOf (nP A.1.1 + 1) (fun _ => 0) 0 days bc from rfl]; unfold rowOf; rw [if_pos (by omega), Nat.zero_add]
        rw [if_neg ni, if_neg ni, ee, pk_sub (by omega), pk_sub (by omega), m_pow X (d + 7) im lw tl iv lv n6 (by omega) p0, bI_some, sg302_128, if_neg (z1 pp (by omega)), p0, nI_add, if_neg (z1 (by omega) (by omega)), pk_div (by omega) pp (by omega), pk_rem dl (by omega) (by omega), nI_clamp (by omega), re]
        unfold cvR
        refine ⟨iv, lv, ?_, h, outI.rf⟩
        split
        · rfl
        · rfl
  | succ k ih =>
    intro x bc o iv lv w7 hx h hb hne
    obtain ⟨p0, -⟩ := mfacts h ho
    rw [rg_cons (cubX A t days) x k, bst_cons]
    obtain ⟨iv1, lv1, a1, a2, a3⟩ := m_one X d im lw tl iv lv h ho ht hd (show x < 100000 by omega)
    have wx := wl (rowOf (nP A.1.1 + 1) (fun _ => 0) 0 days x)
    rw [sg302_51, m_pow X (d + 7) im lw tl iv lv n6 hd p0, bI_some, sg302_58, if_neg (nI_ge (by omega) (by omega)), a1, bI_some, sg302_69, nI_add]
    have eW : nP A.1.1 - (nP A.1.1 - cubW A t days (rowOf (nP A.1.1 + 1) (fun _ => 0) 0 days x)) = cubW A t days (rowOf (nP A.1.1 + 1) (fun _ => 0) 0 days x) := by omega
    have bl : ∀ b, o = some b → b.1 ≤ nP A.1.1 := fun b hb' => by rw [(hb b hb').1]; show nP A.1.1 - _ ≤ _; omega
    rcases gB_lt n6 (show nP A.1.1 - cubW A t days (rowOf (nP A.1.1 + 1) (fun _ => 0) 0 days x) ≤ nP A.1.1 by omega) bl with ⟨b1, b2⟩ | ⟨b1, b, b2, b3⟩
    · rw [eW] at b1
      have ng : ¬ nI (cubW A t days (rowOf (nP A.1.1 + 1) (fun _ => 0) 0 days x)) ≤ gB (nP A.1.1) o := fun e => (Int32.not_lt.mpr e) b1
      rw [if_neg ng, if_neg ng, show bst1 o (cubX A t days x) = some (cubX A t days x) from b2 _]
      obtain ⟨iv2, lv2, c1, c2, c3⟩ := ih (x + 1) x (some (cubX A t days x)) iv1 lv1 (some (.inl (nI (cubW A t days (rowOf (nP A.1.1 + 1) (fun _ => 0) 0 days x))))) (by omega) a2 (fun b hb => by injection hb with hb; exact ⟨hb.symm, by omega⟩) (fun e => by cases e)
      have gx : gB (nP A.1.1) (some (cubX A t days x)) = nI (cubW A t days (rowOf (nP A.1.1 + 1) (fun _ => 0) 0 days x)) := by
        show nI (nP A.1.1 - (nP A.1.1 - _)) = _; rw [eW]
      rw [gx] at c1
      exact ⟨iv2, lv2, c1, c2, a3.tr c3⟩
    · rw [eW] at b1
      have ge : nI (cubW A t days (rowOf (nP A.1.1 + 1) (fun _ => 0) 0 days x)) ≤ gB (nP A.1.1) o := Int32.not_lt.mp b1
      rw [if_pos ge, if_pos ge]
      have bs : bst1 o (cubX A t days x) = o := by
        rw [b2]; exact if_neg (by show ¬ nP A.1.1 - cubW A t days (rowOf (nP A.1.1 + 1) (fun _ => 0) 0 days x) < b.1; omega)
      rw [bs]
      obtain ⟨iv2, lv2, c1, c2, c3⟩ := ih (x + 1) bc o iv1 lv1 (some (.inl (nI (cubW A t days (rowOf (nP A.1.1 + 1) (fun _ => 0) 0 days x))))) (by omega) a2 hb (fun e => by rw [e] at b2; cases b2)
      exact ⟨iv2, lv2, c1, c2, a3.tr c3⟩
theorem M_cubs (t n i : Int32) : MSpec 302 [.inl t, .inl n, .inl i] (sp_cubs t n i) := by
  intro X d im lw tl iv lv A h ho
  have h0 := h.thr (nI 0)
  obtain ⟨p0, p1, t0, t1, hk, he, hk2, h20⟩ := mfacts h0 ho
  rw [tr302]
  generalize hg : upd2 iv 46 0 (nI 0) = ivz at h0 p0 t0 he hk2 h20
  have o0 : outI iv ivz := hg ▸ out0 iv
  rw [m_isT X (d + 37) im lw tl ivz lv t1 t0, bI_some, sg302_10, b2i_ite]
  unfold sp_cubs
  cases hx : hasV (nI (nT A.1.1)) t
  · rw [if_neg (by decide), if_neg (by simp)]
    exact ⟨ivz, lv, rfl, h0, o0⟩
  rw [if_pos rfl, m_in X (d + 38), bI_some, sg302_22, b2i_ite, in_inV n (top := 4) (by decide)]
  cases hy : inV n (nI 4)
  · rw [if_neg (by decide), if_neg (by simp)]
    exact ⟨ivz, lv, rfl, h0, o0⟩
  obtain ⟨a, ha, rfl⟩ := hasV_of (by omega) hx
  obtain ⟨b, hb, rfl⟩ := inV_of (by decide) hy
  rw [if_pos rfl, m_in X (d + 38), bI_some, sg302_37, b2i_ite, in_m1 i hb, nI_clamp (by omega), nI_clamp (by omega)]
  by_cases c : i = -1 ∨ inV i (nI b - nI 1) = true
  · rw [if_pos (decide_eq_true c), if_pos ⟨rfl, rfl, c⟩]
    have hi : i = -1 ∨ ∃ e, e < b ∧ i = nI e := by
      by_cases ci : i = -1
      · exact Or.inl ci
      rcases c with c | c
      · exact Or.inl c
      · right
        rcases Nat.eq_zero_or_pos b with e | e
        · subst e
          exfalso
          unfold inV at c
          have q := of_decide_eq_true c
          have e1 := q.2
          rw [show nI 0 - nI 1 = (-1 : Int32) by decide] at e1
          have le : i ≤ -1 := Int32.not_lt.mp e1
          rcases Int32.le_iff_lt_or_eq.mp le with z | z
          · exact q.1 (Int32.lt_trans z (by decide))
          · exact ci z
        · rw [pk_sub e] at c
          obtain ⟨m, hm, rfl⟩ := inV_of (by omega) c
          exact ⟨m, by omega, rfl⟩
    have pp : 0 < (nP A.1.1 + 1) ^ b := Nat.pow_pos (by omega)
    obtain ⟨iv1, lv1, a1, a2, a3⟩ := m_cub_loop X (d + 31) im lw tl ho (show a < 4 by omega) hb hi ((nP A.1.1 + 1) ^ b) 0 0 none ivz lv none (by omega) h0 (fun b hb => by cases hb) (fun _ => pp)
    have el : (List.range ((nP A.1.1 + 1) ^ b)).map (fun y => cubX A a b (0 + y)) = cubL A a b := by
      rw [cubL_is]; apply List.map_congr_left; intro y _; rw [Nat.zero_add]
    rw [el] at a1
    exact ⟨iv1, lv1, a1, a2, o0.tr a3⟩
  · rw [if_neg (by rw [decide_eq_true_eq]; exact c), if_neg (fun q => c q.2.2)]
    exact ⟨ivz, lv, rfl, h0, o0⟩
theorem S_cubs (t n i : Int32) : stepOK 176 302 [.inl t, .inl n, .inl i] := step_of (C_cubs t n i) (M_cubs t n i) (fun A h => h)
