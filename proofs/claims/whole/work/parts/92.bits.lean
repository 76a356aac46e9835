/-! bits of a mask -/
theorem sh_sm : ∀ v, v < 16 → (nI v &&& 31).toBitVec.smod 32 = BitVec.ofNat 32 v := by decide +kernel
theorem lsb_and (X : BitVec 32) {c : Nat} (hc : c < 32) : (X.sshiftRight c &&& 1#32 = 1#32) ↔ X.getLsbD c = true := by
  constructor
  · intro h
    have h0 : (X.sshiftRight c &&& 1#32).getLsbD 0 = (1#32).getLsbD 0 := by rw [h]
    rw [BitVec.getLsbD_and, BitVec.getLsbD_sshiftRight, show (1#32).getLsbD 0 = true from rfl, Bool.and_true, show c + 0 = c from rfl, if_pos hc] at h0
    simpa using h0
  · intro h
    apply BitVec.eq_of_getLsbD_eq
    intro i hi
    rw [BitVec.getLsbD_and, BitVec.getLsbD_sshiftRight]
    by_cases e : i = 0
    · subst e; simp [h, hc]
    · simp [BitVec.getLsbD_one, e]
theorem bitV_lsb (x : Int32) {v : Nat} (hv : v < 16) : bitV x v = x.toBitVec.getLsbD v := by
  unfold bitV
  have e : (x >>> (nI v &&& 31) &&& nI 1 = nI 1) ↔ x.toBitVec.getLsbD v = true := by
    rw [← lsb_and x.toBitVec (show v < 32 by omega), ← Int32.toBitVec_inj, Int32.toBitVec_and, Int32.toBitVec_shiftRight, sh_sm v hv]
    have : (BitVec.ofNat 32 v).toNat = v := by simp; omega
    unfold BitVec.sshiftRight'
    rw [this]
    rfl
  rw [show decide (x >>> (nI v &&& 31) &&& nI 1 = nI 1) = decide (x.toBitVec.getLsbD v = true) from decide_eq_decide.mpr e]
  cases x.toBitVec.getLsbD v <;> rfl
theorem two_p : ∀ j, j < 16 → (nI 1 <<< (nI j &&& 31)).toBitVec = BitVec.twoPow 32 j := by decide +kernel
theorem bit_or (x : Int32) {s j : Nat} (hs : s < 16) (hj : j < 16) : bitV (x ||| (nI 1 <<< (nI j &&& 31))) s = (bitV x s || decide (s = j)) := by
  rw [bitV_lsb _ hs, bitV_lsb _ hs, Int32.toBitVec_or, BitVec.getLsbD_or, two_p j hj, BitVec.getLsbD_twoPow]
  congr 1
  by_cases e : s = j
  · subst e; simp; omega
  · simp [e]; omega
theorem bit_z {s : Nat} (hs : s < 16) : bitV (nI 0) s = false := by rw [bitV_lsb _ hs]; simp [nI]
theorem bit_v (x : Int32) (v : Nat) : (x >>> (nI v &&& 31)) &&& nI 1 = b2i (bitV x v) := by
  cases h : bitV x v
  · rw [(bit_0 x v).mpr h]; rfl
  · unfold bitV at h; rw [of_decide_eq_true h]; rfl
