/-! calls: seats -/
def seatL (A : St) : List Lf := lev 8 (seatS A.1.1 A.1.2.2.1) (nP A.1.1) 0 (fun _ => 0) 0
def bstV (o : Option Lf) (x : Int32) : Int32 := match o with
  | none => -1
  | some b => if x = 0 then nI b.1 else b.2 (x - nI 1).toNatClampNeg
def sp_seats (x : Int32) (A : St) : Int32 × St := (if inV x (nI (nP A.1.1)) = true then bstV (bst none (seatL A)) x else -1, A)
theorem sg154_13s (X : XE) (cl : XCl) (im lw : List (Option Nat)) (tl : List XC) (iv : Nat → Nat → Int32) (lv : Nat → Nat → Int64) (v2 : Int32) : run X cl false 1 xc154 13 [some (.inr (.inr (some 21))), some (.inr (.inr (some 1))), some (.inl v2)] [] (SS im lw tl, iv, lv) = if ((iv 21 9) : Int32) < v2 then some (some (.inl (-1)), (SS im lw tl, iv, lv)) else bI (cl 155 [.inr (.inr (some 21)), .inr (.inr (some 1)), .inl (nI 0), .inl v2, .inl (nI 0)] (SS im lw tl, iv, lv)) (fun r2 h1 => run X cl false 1 xc154 29 [some (.inr (.inr (some 21))), some (.inr (.inr (some 1))), some (.inl v2)] [.inl r2] h1) := sg154_13 X cl im lw tl iv lv (some 1) v2
theorem c_keepR (X : XE) (d : Nat) (im lw : List (Option Nat)) (tl : List XC) (iv : Nat → Nat → Int32) (lv : Nat → Nat → Int64) (x : Int32) : ∃ iv', call X xT (d + 1) 147 [.inr (.inr (some 21)), .inl x] (SS im lw tl, iv, lv) = some (none, (SS im lw tl, iv', lv)) ∧ fr [21, 27] iv iv' ∧ iv' 21 8 = x ∧ iv' 21 9 = iv 21 9 ∧ ∀ i, i < 6 → iv' 27 i = iv 26 i := by
  rw [tr147, xcopy_ok (S := SS im lw tl) _ lv (b := 26) (a := 27) rfl rfl (by omega) (by omega) (by omega) (by omega)]
  show ∃ iv', run X _ false 0 xc147 23 _ [] (SS im lw tl, _, lv) = _ ∧ _
  rw [sg147_23]
  refine ⟨_, rfl, (fr_upd _ _ _ (by simp)).tr (fr_upr _ _ (by simp)), ?_, ?_, fun i hi => ?_⟩
  · rw [upr_off _ _ _ (by decide), upd2_self]
  · rw [upr_off _ _ _ (by decide), upd2_ne _ _ _ _ (by decide)]
  · rw [upr_self, pk_cpy_in (by omega) (by omega), upd2_off _ _ _ _ (by decide), show 0 + (i - 0) = i by omega]
theorem c_seats_loop (X : XE) (d : Nat) (im lw : List (Option Nat)) (tl : List XC) (lv : Nat → Nat → Int64) {A : St} (ho : OKA A) : ∀ (k lim : Nat) (iv : Nat → Nat → Int32), lim + k = nP A.1.1 + 1 → iv 21 9 = nI (nP A.1.1) → (∀ j, j < 59 → iv 3 j = A.1.1 j) → (∀ q, q < 6 → iv 6 q = A.1.2.2.1 q) → (∀ l, l ∈ seatL A → lim ≤ l.1) → ∃ iv', run X (call X xT (d + 10)) false 1 xc154 13 [some (.inr (.inr (some 21))), some (.inr (.inr (some 1))), some (.inl (nI lim))] [] (SS im lw tl, iv, lv) = some (some (.inl (bstV (bst none (seatL A)) 0)), (SS im lw tl, iv', lv)) ∧ fr [21, 26, 27] iv iv' ∧ ∀ b, bst none (seatL A) = some b → ∀ i, i < nP A.1.1 → iv' 27 i = b.2 i := by
  have n6 : nP A.1.1 ≤ 6 := ho.1.1.1.np.2
  have bd : ∀ l, l ∈ seatL A → l.1 ≤ nP A.1.1 := fun l hl => by have := lev_le seat_le _ _ _ _ l hl; omega
  intro k
  induction k with
  | zero =>
    intro lim iv hk h9 hf hfe hA
    rw [sg154_13s, h9, if_pos (nI_lt (by omega) (by omega))]
    have : seatL A = [] := by
      rw [List.eq_nil_iff_forall_not_mem]
      intro l hl
      have := hA l hl; have := bd l hl; omega
    rw [this]
    exact ⟨iv, rfl, fun _ _ => rfl, fun b hb => by cases hb⟩
  | succ k ih =>
    intro lim iv hk h9 hf hfe hA
    rw [sg154_13s, h9, if_neg (nI_nlt (by omega) (by omega))]
    obtain ⟨iv1, a1, a2, a3, a4⟩ := c_sits X im lw tl lv n6 (lim := lim) (by omega) (nP A.1.1) 0 (by omega) (d + 7 - nP A.1.1) iv (fun _ => 0) 0 0 h9 hf hfe (fun i hi => by omega) (by omega) (by omega) (fun s hs => by simp [tak])
    rw [show d + 7 - nP A.1.1 + 3 + nP A.1.1 = d + 10 by omega] at a1
    have a1 : call X xT (d + 10) 155 [.inr (.inr (some 21)), .inr (.inr (some 1)), .inl (nI 0), .inl (nI lim), .inl (nI 0)] (SS im lw tl, iv, lv) = some (some (.inl (b2i (wi lim (seatL A)).isSome)), (SS im lw tl, iv1, lv)) := a1
    have a4 : ∀ l, wi lim (seatL A) = some l → ∀ i, i < nP A.1.1 → iv1 26 i = l.2 i := a4
    rw [a1, bI_some, sg154_29, b2i_ite]
    cases hw : wi lim (seatL A) with
    | none =>
      rw [if_neg (by decide), nI_add]
      obtain ⟨iv2, b1, b2, b3⟩ := ih (lim + 1) iv1 (by omega) (by rw [a2 21 (by decide)]; exact h9) (by rw [a2 3 (by decide)]; exact hf) (by rw [a2 6 (by decide)]; exact hfe) (fun l hl => by
        have h1 := hA l hl
        by_cases e : l.1 = lim
        · exfalso
          unfold wi at hw
          rw [List.find?_eq_none] at hw
          have := hw l hl
          simp at this; omega
        · omega)
      exact ⟨iv2, b1, (a2.mo (by simp)).tr b2, b3⟩
    | some l =>
      have hl : l ∈ seatL A := by unfold wi at hw; exact List.mem_of_find?_eq_some hw
      have hle : l.1 ≤ lim := by unfold wi at hw; have := List.find?_some hw; simpa using this
      have hge := hA l hl
      have hb : bst none (seatL A) = some l := by
        rcases bst_is (seatL A) with ⟨e, -⟩ | ⟨b, e1, e2, e3, e4⟩
        · rw [e] at hl; cases hl
        · have x1 := e4 l hl
          have x2 := hA b e3
          rw [show b.1 = lim by omega, hw] at e2
          rw [e1, e2]
      obtain ⟨iv2, k1, k2, k3, k4, k5⟩ := c_keepR X (d + 9) im lw tl iv1 lv (nI lim)
      rw [if_pos (by rfl), k1, bV_some, sg154_37, hb]
      refine ⟨iv2, ?_, (a2.mo (by simp)).tr (k2.mo (by simp)), fun b hb' i hi => ?_⟩
      · have b0 : bstV (some l) 0 = nI l.1 := by unfold bstV; exact if_pos rfl
        rw [b0, show l.1 = lim by omega]
      · injection hb' with hb'
        rw [k5 i (by omega), a4 l hw i hi, hb']
theorem C_seats (x : Int32) : CSpec 153 [.inl x] (sp_seats x) := by
  intro X hX d im lw tl iv lv A h ho
  obtain ⟨p0, p1, t0, t1, hk⟩ := cfacts h ho
  rw [tr153, c_prov0 (sc2 im lw tl), bI_some, sg153_11, p0, c_within X (d + 38), bI_some, sg153_14, b2i_ite]
  unfold sp_seats
  cases hx : inV x (nI (nP A.1.1))
  · rw [if_neg (by decide)]
    exact ⟨iv, lv, rfl, h, midI.rf, midL.rf⟩
  rw [if_pos rfl]
  obtain ⟨n, hn, rfl⟩ := inV_of (by omega) hx
  have e154 : call X xT (d + 39) 154 [.inr (.inr (some 21)), .inr (.inr (some 1))] (SS im lw tl, iv, lv) = run X (call X xT (d + 38)) false 1 xc154 13 [some (.inr (.inr (some 21))), some (.inr (.inr (some 1))), some (.inl (nI 0))] [] (SS im lw tl, upd2 iv 21 9 (nI (nP A.1.1)), lv) := by
    rw [tr154, obj_ok (show (SS im lw tl)[1]? = some (9, 6, [some 2, some 4, some 6, some 7, none, none]) from rfl) rfl (by show 0 < 6; omega)]
    show objR (SS im lw tl) (some 2) 7 _ = _
    rw [objR_ok (show (SS im lw tl)[2]? = some (7, 1, [some 3]) from rfl) rfl, c_prov0 (sc2 im lw tl), bI_some, p0, sg154_8]
  have off : ∀ a, a ≠ 21 → (upd2 iv 21 9 (nI (nP A.1.1))) a = iv a := fun a ha => upd2_off _ _ _ _ ha
  obtain ⟨iv1, a1, a2, a3⟩ := c_seats_loop X (d + 28) im lw tl lv ho (nP A.1.1 + 1) 0 (upd2 iv 21 9 (nI (nP A.1.1))) (by omega) (by rw [upd2_self]) (by rw [off 3 (by decide)]; exact h.2.1.1) (by rw [off 6 (by decide)]; exact h.2.1.2.2.2.1) (fun l hl => by omega)
  have f1 : fr [21, 26, 27] iv iv1 := (fr_upd _ _ _ (by simp)).tr a2
  have h1 : RelC A im lw tl iv1 := h.fr (fun a ha => f1 a (by simp [ncC] at ha; simp; omega)) (fun a ha => f1 a (by simp; omega))
  rw [e154, a1, bI_some, sg153_30]
  refine ⟨iv1, lv, ?_, h1, f1.mid (by simp), midL.rf⟩
  cases hb : bst none (seatL A) with
  | none =>
    rw [if_pos (show bstV none 0 = -1 from rfl), sg153_54]; rfl
  | some b =>
    have b0 : bstV (some b) 0 = nI b.1 := by unfold bstV; exact if_pos rfl
    have bl : b.1 ≤ 6 := by
      rcases bst_is (seatL A) with ⟨-, e⟩ | ⟨b', e1, -, e3, -⟩
      · rw [e] at hb; cases hb
      · rw [e1] at hb; injection hb with hb; subst hb
        have := lev_le seat_le _ _ _ _ b' e3; omega
    rw [b0, if_neg (nI_m1 (by omega))]
    have bn : bstV (some b) (nI n) = if nI n = 0 then nI b.1 else b.2 (nI n - nI 1).toNatClampNeg := rfl
    simp only [if_true]
    rw [bn]
    by_cases c : n = 0
    · subst c; rw [if_pos (by decide), if_pos (by decide), sg153_54]
    · have z : ¬ nI n = 0 := fun e => c (by have := congrArg Int32.toNatClampNeg e; rw [nI_clamp (by omega)] at this; exact this)
      rw [if_neg z, if_neg z, pk_sub (by omega), tr150, if_neg (nI_pos (by omega)), if_neg (nI_ge (by omega) (by omega)), if_pos (inb_nI (by omega) (by omega)), bI_some, sg153_54, nI_clamp (by omega), a3 b hb (n - 1) (by omega)]
