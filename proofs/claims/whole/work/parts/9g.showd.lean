/-! show: the class's call -/
theorem msk_m : ∀ n, n < 7 → ∀ i, i < 32 → (nI (2 ^ n - 1) ^^^ (-1)).toBitVec.getLsbD i = decide (n ≤ i) := by decide +kernel
theorem msk_z : ∀ n, n < 7 → ∀ m, m < 2 ^ n → nI m &&& (nI (2 ^ n - 1) ^^^ (-1)) = 0 := by decide +kernel
theorem msk_a : ∀ n, n < 7 → (nI 1 <<< (nI n &&& 31)) - nI 1 = nI (2 ^ n - 1) := by decide +kernel
theorem msk_p : ∀ n, n < 7 → 0 < 2 ^ n ∧ 2 ^ n ≤ 64 := by decide +kernel
theorem msk_is {n : Nat} (hn : n < 7) (x : Int32) : (x &&& (nI (2 ^ n - 1) ^^^ (-1)) = 0) ↔ inV x (nI (2 ^ n - 1)) = true := by
  obtain ⟨q0, q1⟩ := msk_p n hn
  constructor
  · intro h
    have hb : ∀ i, n ≤ i → x.toBitVec.toNat.testBit i = false := by
      intro i hi
      by_cases e : i < 32
      · have h0 : (x &&& (nI (2 ^ n - 1) ^^^ (-1))).toBitVec.getLsbD i = (0 : Int32).toBitVec.getLsbD i := by rw [h]
        rw [Int32.toBitVec_and, BitVec.getLsbD_and, msk_m n hn i e, decide_eq_true hi, Bool.and_true] at h0
        have h0 : x.toBitVec.toNat.testBit i = (0 : Int32).toBitVec.getLsbD i := h0
        rw [h0]
        have : (0 : Int32).toBitVec = 0#32 := rfl
        rw [this, BitVec.getLsbD_zero]
      · exact Nat.testBit_lt_two_pow (Nat.lt_of_lt_of_le x.toBitVec.isLt (Nat.pow_le_pow_right (by omega) (by omega)))
    have hl : x.toBitVec.toNat < 2 ^ n := Nat.lt_pow_two_of_testBit _ hb
    have e : x = nI x.toBitVec.toNat := by
      apply Int32.toBitVec_inj.mp
      show x.toBitVec = BitVec.ofNat 32 x.toBitVec.toNat
      rw [BitVec.ofNat_toNat, BitVec.setWidth_eq]
    rw [e]
    unfold inV
    exact decide_eq_true ⟨nI_pos (by omega), nI_nlt (by omega) (by omega)⟩
  · intro h
    obtain ⟨m, hm, rfl⟩ := inV_of (by omega) h
    exact msk_z n hn m (by omega)
theorem c_bits (X : XE) (d : Nat) (im lw : List (Option Nat)) (tl : List XC) (iv : Nat → Nat → Int32) (lv : Nat → Nat → Int64) : ∀ x, x < 64 → call X xT (d + 1) 149 [.inl (nI x)] (SS im lw tl, iv, lv) = some (some (.inl (nI (pc6 x))), (SS im lw tl, iv, lv)) := by
  intro x hx
  rw [tr149]
  refine congrArg (fun v : Int32 => (some (some (Sum.inl v), (SS im lw tl, iv, lv)) : Option XR)) ?_
  revert x
  decide +kernel
def shoV (o : Option Lf) (m : Nat) (i : Int32) : Int32 := match o with
  | none => -1
  | some b => if i = -1 then nI b.1 else if inV i (nI m - nI 1) = true then b.2 i.toNatClampNeg else -1
def sp_show (t x i : Int32) (A : St) : Int32 × St := (if hasV (nI (nT A.1.1)) t = true then (if inV x (nI (2 ^ nP A.1.1 - 1)) = true then shoV (bst none (showL A t.toNatClampNeg x.toNatClampNeg)) (pc6 x.toNatClampNeg) i else -1) else -1, A)
/-- within the row -/
theorem in_row {m : Nat} (hm : m ≤ 6) (i : Int32) : (inV i (nI m - nI 1) = true ∧ ∃ k, k < m ∧ i = nI k) ∨ (inV i (nI m - nI 1) = false ∧ (i < 0 ∨ nI m ≤ i)) := by
  by_cases m0 : m = 0
  · subst m0
    refine Or.inr ⟨?_, ?_⟩
    · unfold inV
      refine decide_eq_false (fun h => h.2 ?_)
      have := h.1
      rw [show nI 0 - nI 1 = (-1 : Int32) by decide, fb_lt]
      rw [fb_lt] at this
      rw [show (0 : Int32).toInt = 0 by decide] at this
      rw [show (-1 : Int32).toInt = -1 by decide]
      omega
    · by_cases c : i < 0
      · exact Or.inl c
      · refine Or.inr ?_
        rw [Int32.le_iff_toInt_le]
        rw [fb_lt, show (0 : Int32).toInt = 0 by decide] at c
        rw [show (nI 0).toInt = 0 by decide]; omega
  · rw [pk_sub (by omega)]
    cases h : inV i (nI (m - 1))
    · refine Or.inr ⟨rfl, ?_⟩
      unfold inV at h
      have h := of_decide_eq_false h
      by_cases c : i < 0
      · exact Or.inl c
      · refine Or.inr ?_
        have c2 : nI (m - 1) < i := by
          apply Classical.byContradiction
          intro q; exact h ⟨c, q⟩
        rw [Int32.le_iff_toInt_le, nI_toInt (by omega)]
        rw [fb_lt, nI_toInt (by omega)] at c2
        omega
    · obtain ⟨k, hk, e⟩ := inV_of (by omega) h
      exact Or.inl ⟨rfl, k, by omega, e⟩
theorem C_show (t x i : Int32) : CSpec 143 [.inl t, .inl x, .inl i] (sp_show t x i) := by
  intro X hX d im lw tl iv lv A h ho
  show CR' im lw tl iv lv _ _
  obtain ⟨p0, p1, t0, t1, hk⟩ := cfacts h ho
  unfold sp_show
  rw [tr143, c_prov0 (sc2 im lw tl), bI_some, sg143_11, c_hasT (sc2 im lw tl), bI_some, sg143_27, b2i_ite, t0, p0, msk_a _ (by omega)]
  by_cases ht : hasV (nI (nT A.1.1)) t = true
  · rw [if_pos ht, if_pos ht]
    by_cases hx : inV x (nI (2 ^ nP A.1.1 - 1)) = true
    · rw [if_pos ((msk_is (by omega) x).mpr hx), if_pos hx]
      obtain ⟨q0, q1⟩ := msk_p (nP A.1.1) (by omega)
      obtain ⟨a, ha, rfl⟩ := hasV_of (by omega) ht
      obtain ⟨td, htd, rfl⟩ := inV_of (by omega) hx
      rw [nI_clamp (by omega), nI_clamp (by omega)]
      obtain ⟨iv1, lv1, a1, a2, a3, a4⟩ := c_findShow X (d + 19) ho (t := a) (td := td) (by omega) (by omega) iv lv h
      have h1 : RelC A im lw tl iv1 := h.fr (fun a ha => a2 a (by simp [ncC] at ha; simp; omega)) (fun a ha => a2 a (by simp; omega))
      have p6 := pc_le td (by omega)
      rw [a1, bI_some, sg143_54]
      refine ⟨iv1, lv1, ?_, h1, a2.mid (by simp), fun a ha _ => a3 a (by omega)⟩
      cases hb : bst none (showL A a td) with
      | none => rw [if_pos (show shV none = -1 from rfl)]; rfl
      | some b =>
        obtain ⟨b6, br⟩ := a4 b hb
        rw [if_neg (show ¬ shV (some b) = -1 from nI_m1 (by omega))]
        rw [show shoV (some b) (pc6 td) i = (if i = -1 then nI b.1 else if inV i (nI (pc6 td) - nI 1) = true then b.2 i.toNatClampNeg else -1) from rfl]
        by_cases ci : i = -1
        · rw [if_pos ci, if_pos ci]; rfl
        · rw [if_neg ci, if_neg ci, c_bits X (d + 38) im lw tl iv1 lv1 td (by omega), bI_some, sg143_75, c_within X (d + 38), bI_some, sg143_80, b2i_ite]
          rcases in_row p6 i with ⟨e, k, hk, rfl⟩ | ⟨e, -⟩
          · rw [if_pos e, if_pos e, tr150, if_neg (nI_pos (by omega)), if_neg (nI_ge (by omega) (by omega)), if_pos (inb_nI (by omega) (by omega)), bI_some, sg143_91, nI_clamp (by omega), br k hk]
          · rw [if_neg (by rw [e]; decide), if_neg (by rw [e]; decide)]
    · rw [if_neg (fun e => hx ((msk_is (by omega) x).mp e)), if_neg hx]
      exact cq h rfl
  · rw [if_neg ht, if_neg ht]
    exact cq h rfl
