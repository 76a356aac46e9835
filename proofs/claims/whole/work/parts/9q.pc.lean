/-! the class's parser: its state, its small steps -/
def tI (t : Nat) : Int32 := if t = 9999 then -1 else nI t
theorem tI_eq {t w : Nat} (ht : t ≤ 9999) (hw : w ≤ 4000) : tI t = nI w ↔ t = w := by
  unfold tI
  by_cases e : t = 9999
  · rw [if_pos e]
    constructor
    · intro h; exact absurd h.symm (nI_m1 (by omega))
    · intro h; omega
  · rw [if_neg e]
    constructor
    · intro h; have := congrArg Int32.toNatClampNeg h; rw [nI_clamp (by omega), nI_clamp (by omega)] at this; exact this
    · intro h; rw [h]
theorem tI_end {t : Nat} (ht : t ≤ 9999) : tI t = -1 ↔ t = 9999 := by
  unfold tI
  by_cases e : t = 9999
  · rw [if_pos e]; exact ⟨fun _ => e, fun _ => rfl⟩
  · rw [if_neg e]; exact ⟨fun h => absurd h (nI_m1 (by omega)), fun h => absurd h e⟩
theorem nI_orN {a o : Nat} (ho : o < 16) (ha : a < 1000000) : (nI a <<< (nI 4 &&& 31)) ||| nI o = nI (a * 16 + o) := by
  rw [pk_shlN _ 4 nI_4s (by omega)]
  apply Int32.toBitVec_inj.mp
  rw [Int32.toBitVec_or]
  apply BitVec.eq_of_toNat_eq
  rw [BitVec.toNat_or, pk_tn (by omega), pk_tn (by omega), pk_tn (by omega)]
  have := Nat.shiftLeft_add_eq_or_of_lt (b := o) (i := 4) (by omega) a
  rw [Nat.shiftLeft_eq] at this
  exact this.symm
def tokC (q : Bool) (tk pl : Nat → Nat) (nt : Nat) (iv : Nat → Nat → Int32) : Prop := nt ≤ 400 ∧ tk nt = 9999 ∧ (∀ j, j < nt → tk j ≤ 4000) ∧ (∀ j, j ≤ nt → iv 15 j = tI (tk j) ∧ iv 16 j = nI (pl j)) ∧ iv 11 4 = b2i q ∧ iv 11 8 = -1
def stC (q : Bool) (tk pl : Nat → Nat) (nt : Nat) (iv : Nat → Nat → Int32) (C : Cd) (c i : Nat) : Prop := tokC q tk pl nt iv ∧ i ≤ nt ∧ c ≤ 50 ∧ iv 11 5 = nI i ∧ iv 11 6 = tI (tk i) ∧ iv 11 7 = nI c ∧ iv 12 2 = nI C.length ∧ C.length ≤ i ∧ ∀ k x, C[k]? = some x → iv 13 k = nI (x.2 * 16 + x.1)
def frE (iv iv' : Nat → Nat → Int32) : Prop := fr [11, 12, 13] iv iv' ∧ iv' 12 3 = iv 12 3
theorem frE.rf {iv : Nat → Nat → Int32} : frE iv iv := ⟨fun _ _ => rfl, rfl⟩
theorem frE.tr {a b c : Nat → Nat → Int32} (h : frE a b) (h2 : frE b c) : frE a c := ⟨h.1.tr h2.1, h2.2.trans h.2⟩
theorem stC.lt {q : Bool} {tk pl : Nat → Nat} {nt : Nat} {iv : Nat → Nat → Int32} {C : Cd} {c i : Nat} (h : stC q tk pl nt iv C c i) {w : Nat} (hw : w ≤ 4000) (e : tk i = w) : i < nt := by
  obtain ⟨⟨t1, t2, t3, t4, t5⟩, h1, h2, h3, h4, h5, h6, h7, h8⟩ := h
  rcases Nat.lt_or_ge i nt with z | z
  · exact z
  · rw [show i = nt by omega, t2] at e; omega
theorem stC.t {q : Bool} {tk pl : Nat → Nat} {nt : Nat} {iv : Nat → Nat → Int32} {C : Cd} {c i : Nat} (h : stC q tk pl nt iv C c i) : tk i ≤ 9999 := by
  obtain ⟨⟨t1, t2, t3, t4, t5⟩, h1, h2, h3, h4, h5, h6, h7, h8⟩ := h
  rcases Nat.lt_or_ge i nt with z | z
  · have := t3 i z; omega
  · rw [show i = nt by omega, t2]; omega
theorem stC.eq {q : Bool} {tk pl : Nat → Nat} {nt : Nat} {iv : Nat → Nat → Int32} {C : Cd} {c i : Nat} (h : stC q tk pl nt iv C c i) {w : Nat} (hw : w ≤ 4000) : iv 11 6 = nI w ↔ tk i = w := by
  rw [h.2.2.2.2.1]; exact tI_eq h.t hw
section pc
variable (X : XE) (im lw : List (Option Nat)) (tl : List XC) (lv : Nat → Nat → Int64)
theorem c_next (d : Nat) {q : Bool} {tk pl : Nat → Nat} {nt : Nat} {iv : Nat → Nat → Int32} {C : Cd} {c i : Nat} (h : stC q tk pl nt iv C c i) (hi : i < nt) : ∃ iv', call X xT (d + 1) 87 [.inr (.inr (some 11))] (SS im lw tl, iv, lv) = some (none, (SS im lw tl, iv', lv)) ∧ stC q tk pl nt iv' C c (i + 1) ∧ frE iv iv' := by
  obtain ⟨⟨t1, t2, t3, t4, t5⟩, h1, h2, h3, h4, h5, h6, h7, h8⟩ := h
  have hne : ¬ iv 11 6 = -1 := by rw [h4, tI_end (by have := t3 i hi; omega)]; have := t3 i hi; omega
  rw [tr87, if_neg hne, h3, if_neg (nI_ge (by omega) (by omega)), nI_add, if_pos (inb_nI (by omega) (by omega)), nI_clamp (by omega)]
  refine ⟨_, rfl, ⟨⟨t1, t2, t3, fun j hj => ?_, ?_⟩, hi, h2, ?_, ?_, ?_, ?_, by omega, fun k x hx => ?_⟩, ⟨(fr_upd _ _ _ (by simp)).tr (fr_upd _ _ _ (by simp)), ?_⟩⟩
  · rw [upd2_off _ _ _ _ (by decide), upd2_off _ _ _ _ (by decide), upd2_off _ _ _ _ (by decide), upd2_off _ _ _ _ (by decide)]; exact t4 j hj
  · exact ⟨by rw [upd2_ne _ _ _ _ (by decide), upd2_ne _ _ _ _ (by decide)]; exact t5.1, by rw [upd2_ne _ _ _ _ (by decide), upd2_ne _ _ _ _ (by decide)]; exact t5.2⟩
  · rw [upd2_ne _ _ _ _ (by decide), upd2_self]
  · rw [upd2_self]; exact (t4 (i + 1) hi).1
  · rw [upd2_ne _ _ _ _ (by decide), upd2_ne _ _ _ _ (by decide)]; exact h5
  · rw [upd2_off _ _ _ _ (by decide), upd2_off _ _ _ _ (by decide)]; exact h6
  · rw [upd2_off _ _ _ _ (by decide), upd2_off _ _ _ _ (by decide)]; exact h8 k x hx
  · rw [upd2_off _ _ _ _ (by decide), upd2_off _ _ _ _ (by decide)]
/-- the next token, if it is the one wanted -/
theorem c_takes (d : Nat) {q : Bool} {tk pl : Nat → Nat} {nt : Nat} {iv : Nat → Nat → Int32} {C : Cd} {c i : Nat} (h : stC q tk pl nt iv C c i) {w : Nat} (hw : w ≤ 4000) : ∃ iv', call X xT (d + 2) 92 [.inr (.inr (some 11)), .inl (nI w)] (SS im lw tl, iv, lv) = some (some (.inl (b2i (decide (tk i = w)))), (SS im lw tl, iv', lv)) ∧ stC q tk pl nt iv' C c (if tk i = w then i + 1 else i) ∧ frE iv iv' := by
  rw [tr92]
  by_cases e : tk i = w
  · obtain ⟨iv', a1, a2, a3⟩ := c_next X im lw tl lv d h (h.lt hw e)
    rw [if_pos ((h.eq hw).mpr e), a1, bV_some, sg92_14, if_pos e, decide_eq_true e]
    exact ⟨iv', rfl, a2, a3⟩
  · rw [if_neg (fun z => e ((h.eq hw).mp z)), if_neg e, decide_eq_false e]
    exact ⟨iv, rfl, h, frE.rf⟩
/-- it fails here -/
theorem c_fails (d : Nat) {q : Bool} {tk pl : Nat → Nat} {nt : Nat} {iv : Nat → Nat → Int32} {C : Cd} {c i : Nat} (h : stC q tk pl nt iv C c i) : ∃ iv', call X xT (d + 1) 84 [.inr (.inr (some 11))] (SS im lw tl, iv, lv) = some (some (.inl (nI 0)), (SS im lw tl, iv', lv)) ∧ iv' 11 8 = nI (pl i) ∧ frE iv iv' ∧ ∃ s, s ≤ 400 ∧ iv' 12 2 = nI s := by
  obtain ⟨⟨t1, t2, t3, t4, t5⟩, h1, h2, h3, h4, h5, h6, h7, h8⟩ := h
  rw [tr84, h3, if_pos (inb_nI (by omega) (by omega)), nI_clamp (by omega)]
  refine ⟨_, rfl, by rw [upd2_self]; exact (t4 i h1).2, ⟨fr_upd _ _ _ (by simp), by rw [upd2_off _ _ _ _ (by decide)]⟩, C.length, by omega, by rw [upd2_off _ _ _ _ (by decide)]; exact h6⟩
theorem c_emit (d : Nat) {q : Bool} {tk pl : Nat → Nat} {nt : Nat} {iv : Nat → Nat → Int32} {C : Cd} {c i : Nat} (h : stC q tk pl nt iv C c i) {o a : Nat} (ho : o < 16) (ha : a < 1000000) (hl : C.length + 1 ≤ i) : ∃ iv', call X xT (d + 1) 95 [.inr (.inr (some 12)), .inl (nI o), .inl (nI a)] (SS im lw tl, iv, lv) = some (some (.inl (nI C.length)), (SS im lw tl, iv', lv)) ∧ stC q tk pl nt iv' (C ++ [(o, a)]) c i ∧ frE iv iv' := by
  obtain ⟨⟨t1, t2, t3, t4, t5⟩, h1, h2, h3, h4, h5, h6, h7, h8⟩ := h
  rw [tr95p, h6, if_neg (nI_ge (by omega) (by omega)), if_pos (inb_nI (by omega) (by omega)), nI_add, pk_sub (by omega), nI_clamp (by omega), nI_orN ho ha]
  refine ⟨_, rfl, ⟨⟨t1, t2, t3, fun j hj => ?_, ?_⟩, h1, h2, ?_, ?_, ?_, ?_, ?_, fun k x hx => ?_⟩, ⟨(fr_upd _ _ _ (by simp)).tr (fr_upd _ _ _ (by simp)), ?_⟩⟩
  · rw [upd2_off _ _ _ _ (by decide), upd2_off _ _ _ _ (by decide), upd2_off _ _ _ _ (by decide), upd2_off _ _ _ _ (by decide)]; exact t4 j hj
  · exact ⟨by rw [upd2_off _ _ _ _ (by decide), upd2_off _ _ _ _ (by decide)]; exact t5.1, by rw [upd2_off _ _ _ _ (by decide), upd2_off _ _ _ _ (by decide)]; exact t5.2⟩
  · rw [upd2_off _ _ _ _ (by decide), upd2_off _ _ _ _ (by decide)]; exact h3
  · rw [upd2_off _ _ _ _ (by decide), upd2_off _ _ _ _ (by decide)]; exact h4
  · rw [upd2_off _ _ _ _ (by decide), upd2_off _ _ _ _ (by decide)]; exact h5
  · rw [upd2_self, List.length_append]; rfl
  · rw [List.length_append, List.length_singleton]; exact hl
  · rw [upd2_off _ _ _ _ (by decide)]
    by_cases e : k < C.length
    · rw [List.getElem?_append_left e] at hx
      rw [upd2_ne _ _ _ _ (by omega)]; exact h8 k x hx
    · have hk : k < (C ++ [(o, a)]).length := (List.getElem?_eq_some_iff.mp hx).1
      rw [List.length_append, List.length_singleton] at hk
      have : k = C.length := by omega
      subst this
      rw [List.getElem?_append_right (by omega), Nat.sub_self] at hx
      injection hx with hx
      rw [upd2_self, ← hx]
  · rw [upd2_ne _ _ _ _ (by decide), upd2_off _ _ _ _ (by decide)]
/-- an emission where it has failed -/
theorem c_emit_f (d : Nat) {iv : Nat → Nat → Int32} {s : Nat} (hs : s ≤ 400) (h : iv 12 2 = nI s) (o a : Int32) : ∃ iv' v, call X xT (d + 1) 95 [.inr (.inr (some 12)), .inl o, .inl a] (SS im lw tl, iv, lv) = some (some (.inl v), (SS im lw tl, iv', lv)) ∧ iv' 11 = iv 11 ∧ frE iv iv' ∧ ∃ s, s ≤ 400 ∧ iv' 12 2 = nI s := by
  rw [tr95p, h]
  by_cases e : s = 400
  · rw [if_pos (nI_le (by omega) (by omega))]
    exact ⟨iv, _, rfl, rfl, frE.rf, s, hs, h⟩
  · rw [if_neg (nI_ge (by omega) (by omega)), if_pos (inb_nI (by omega) (by omega)), nI_add]
    exact ⟨_, _, rfl, by rw [upd2_off _ _ _ _ (by decide), upd2_off _ _ _ _ (by decide)], ⟨(fr_upd _ _ _ (by simp)).tr (fr_upd _ _ _ (by simp)), by rw [upd2_ne _ _ _ _ (by decide), upd2_off _ _ _ _ (by decide)]⟩, s + 1, by omega, by rw [upd2_self]⟩
/-- a jump is aimed -/
theorem c_aim (d : Nat) {q : Bool} {tk pl : Nat → Nat} {nt : Nat} {iv : Nat → Nat → Int32} {A B : Cd} {o a c i : Nat} (h : stC q tk pl nt iv (A ++ (o, a) :: B) c i) (ho : o < 16) (ha : a < 1000000) : ∃ iv', call X xT (d + 1) 102 [.inr (.inr (some 12)), .inl (nI A.length)] (SS im lw tl, iv, lv) = some (none, (SS im lw tl, iv', lv)) ∧ stC q tk pl nt iv' (A ++ (o, A.length + 1 + B.length) :: B) c i ∧ frE iv iv' := by
  obtain ⟨⟨t1, t2, t3, t4, t5⟩, h1, h2, h3, h4, h5, h6, h7, h8⟩ := h
  have hl : (A ++ (o, a) :: B).length = A.length + 1 + B.length := by rw [List.length_append, List.length_cons]; omega
  have hl2 : (A ++ (o, A.length + 1 + B.length) :: B).length = A.length + 1 + B.length := by rw [List.length_append, List.length_cons]; omega
  rw [hl] at h6 h7
  have e13 : iv 13 A.length = nI (a * 16 + o) := h8 A.length (o, a) (by rw [List.getElem?_append_right (by omega), Nat.sub_self]; rfl)
  rw [tr102p, if_neg (nI_pos (by omega)), if_neg (nI_ge (by omega) (by omega)), if_pos (inb_nI (by omega) (by omega)), if_pos (inb_nI (by omega) (by omega)), nI_clamp (by omega), h6, e13, pk_andN (by omega) 4 nI_15, show (a * 16 + o) % 2 ^ 4 = o by omega, nI_orN ho (by omega)]
  refine ⟨_, rfl, ⟨⟨t1, t2, t3, fun j hj => ?_, ?_⟩, h1, h2, ?_, ?_, ?_, ?_, by rw [hl2]; exact h7, fun k x hx => ?_⟩, ⟨fr_upd _ _ _ (by simp), ?_⟩⟩
  · rw [upd2_off _ _ _ _ (by decide), upd2_off _ _ _ _ (by decide)]; exact t4 j hj
  · exact ⟨by rw [upd2_off _ _ _ _ (by decide)]; exact t5.1, by rw [upd2_off _ _ _ _ (by decide)]; exact t5.2⟩
  · rw [upd2_off _ _ _ _ (by decide)]; exact h3
  · rw [upd2_off _ _ _ _ (by decide)]; exact h4
  · rw [upd2_off _ _ _ _ (by decide)]; exact h5
  · rw [upd2_off _ _ _ _ (by decide), hl2]; exact h6
  · by_cases e : k = A.length
    · subst e
      rw [List.getElem?_append_right (by omega), Nat.sub_self] at hx
      injection hx with hx
      rw [upd2_self, ← hx]
    · rw [upd2_ne _ _ _ _ (by omega)]
      refine h8 k x ?_
      rcases Nat.lt_or_ge k A.length with z | z
      · rw [List.getElem?_append_left z] at hx ⊢; exact hx
      · rw [List.getElem?_append_right z] at hx ⊢
        obtain ⟨j, hj⟩ : ∃ j, k - A.length = j + 1 := ⟨k - A.length - 1, by omega⟩
        rw [hj] at hx ⊢
        exact hx
  · rw [upd2_off _ _ _ _ (by decide)]
def nO (t : Nat) : Int32 := if 256 ≤ t ∧ t < 2000 then nI (t - 256) else -1
theorem c_numOf (d : Nat) (iv : Nat → Nat → Int32) {t : Nat} (ht : t ≤ 9999) : call X xT (d + 1) 93 [.inl (tI t)] (SS im lw tl, iv, lv) = some (some (.inl (nO t)), (SS im lw tl, iv, lv)) := by
  rw [tr93]
  unfold nO tI
  by_cases e : t = 9999
  · rw [if_pos e, if_pos (by decide), if_neg (by omega)]
  · rw [if_neg e]
    by_cases h1 : t < 256
    · rw [if_pos (nI_lt h1 (by omega)), if_neg (by omega)]
    · rw [if_neg (nI_nlt (by omega) (by omega))]
      by_cases h2 : 2000 ≤ t
      · rw [if_pos (nI_le h2 (by omega)), if_neg (by omega)]
      · rw [if_neg (nI_ge (by omega) (by omega)), if_pos ⟨by omega, by omega⟩, pk_sub (by omega)]
end pc
