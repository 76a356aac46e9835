/-! a world copied from another -/
/-- the cells of a world -/
def wS (S : List XC) (a sc c de dc fc rc : Nat) (rs : List (Option Nat)) : Prop :=
  S[a]? = some (9, 6, [some sc, some de, some fc, some rc, none, none]) ∧ S[sc]? = some (7, 1, [some c]) ∧ S[c]? = some (50, 59, []) ∧ S[de]? = some (0, 2, [some dc, none]) ∧ S[dc]? = some (50, 40, []) ∧ S[fc]? = some (50, 6, []) ∧ S[rc]? = some (54, 6, rs) ∧ rs.length = 6 ∧ fc < 1000000 ∧ dc < 1000000 ∧ rc < 1000000
theorem sg109_0g (X : XE) (cl : XCl) (S : List XC) (iv : Nat → Nat → Int32) (lv : Nat → Nat → Int64) (a b : Nat) : run X cl false 0 xc109 0 [some (.inr (.inr (some a))), some (.inr (.inr (some b)))] [] (S, iv, lv) = obj S (some b) 7 0 (fun _ c1 => obj S (some a) 7 0 (fun _ c2 => run X cl false 0 xc109 12 [some (.inr (.inr (some a))), some (.inr (.inr (some b)))] [.inl (nI 59), .inl (nI 0), .inr (.inr (c2.2.2.getD 0 none)), .inl (nI 0), .inr (.inr (c1.2.2.getD 0 none))] (S, iv, lv))) := seg_of (chk_pos xk109) [12] 12 rfl
theorem c_sccopy {X : XE} {d : Nat} {S : List XC} (iv : Nat → Nat → Int32) (lv : Nat → Nat → Int64) {a b ca cb : Nat} (ha : S[a]? = some (7, 1, [some ca])) (hb : S[b]? = some (7, 1, [some cb])) (hca : S[ca]? = some (50, 59, [])) (hcb : S[cb]? = some (50, 59, [])) : call X xT (d + 1) 109 [.inr (.inr (some a)), .inr (.inr (some b))] (S, iv, lv) = some (none, (S, upr iv ca (va_cpy (iv cb) (iv ca) 0 0 59), lv)) := by
  rw [ce109 (Nat.le_of_ble_eq_true rfl)]
  show run X _ false 0 xc109 0 [some (.inr (.inr (some a))), some (.inr (.inr (some b)))] [] _ = _
  rw [sg109_0g, obj_ok hb rfl (by show 0 < 1; omega), obj_ok ha rfl (by show 0 < 1; omega), si109_12]
  show xcopy (S, iv, lv) cb (nI 0) ca (nI 0) (nI 59) _ = _
  rw [xcopy_ok iv lv hcb hca (by omega) (by omega) (by omega) (by omega)]
  show run X _ false 0 xc109 15 [some (.inr (.inr (some a))), some (.inr (.inr (some b)))] [] _ = _
  rw [si109_15]
  rfl
theorem sg190_0g (X : XE) (cl : XCl) (S : List XC) (iv : Nat → Nat → Int32) (lv : Nat → Nat → Int64) (a b : Nat) : run X cl false 0 xc190 0 [some (.inr (.inr (some a))), some (.inr (.inr (some b)))] [] (S, iv, lv) = obj S (some b) 0 0 (fun _ c1 => obj S (some a) 0 0 (fun _ c2 => obj S (some a) 0 0 (fun _ c3 => alen X S (c3.2.2.getD 0 none) (fun n => run X cl false 0 xc190 15 [some (.inr (.inr (some a))), some (.inr (.inr (some b)))] [.inl n, .inl (nI 0), .inr (.inr (c2.2.2.getD 0 none)), .inl (nI 0), .inr (.inr (c1.2.2.getD 0 none))] (S, iv, lv))))) := seg_of (chk_pos xk190) [15] 12 rfl
theorem sg190_18g (X : XE) (cl : XCl) (S : List XC) (iv : Nat → Nat → Int32) (lv : Nat → Nat → Int64) (a b : Nat) : run X cl false 0 xc190 18 [some (.inr (.inr (some a))), some (.inr (.inr (some b)))] [] (S, iv, lv) = obj S (some b) 0 1 (fun b' _ => obj S (some a) 0 1 (fun a' _ => some (none, (S, upd2 iv a' 1 (iv b' 1), lv)))) := seg_of (chk_pos xk190) [] 12 rfl
theorem c_decopy {X : XE} {d : Nat} {S : List XC} (iv : Nat → Nat → Int32) (lv : Nat → Nat → Int64) {a b ca cb : Nat} (ha : S[a]? = some (0, 2, [some ca, none])) (hb : S[b]? = some (0, 2, [some cb, none])) (hca : S[ca]? = some (50, 40, [])) (hcb : S[cb]? = some (50, 40, [])) (hl : ca < 1000000) (hne : b ≠ ca) : call X xT (d + 1) 190 [.inr (.inr (some a)), .inr (.inr (some b))] (S, iv, lv) = some (none, (S, upd2 (upr iv ca (va_cpy (iv cb) (iv ca) 0 0 40)) a 1 (iv b 1), lv)) := by
  rw [ce190 (Nat.le_of_ble_eq_true rfl)]
  show run X _ false 0 xc190 0 [some (.inr (.inr (some a))), some (.inr (.inr (some b)))] [] _ = _
  rw [sg190_0g, obj_ok hb rfl (by show 0 < 2; omega), obj_ok ha rfl (by show 0 < 2; omega), obj_ok ha rfl (by show 0 < 2; omega)]
  show alen X S (some ca) _ = _
  rw [alen_ok X hl hca (by show 50 ≤ 50; omega), si190_15]
  show xcopy (S, iv, lv) cb (nI 0) ca (nI 0) (nI 40) _ = _
  rw [xcopy_ok iv lv hcb hca (by omega) (by omega) (by omega) (by omega)]
  show run X _ false 0 xc190 18 [some (.inr (.inr (some a))), some (.inr (.inr (some b)))] [] (S, _, lv) = _
  rw [sg190_18g, obj_ok hb rfl (by show 1 < 2; omega), obj_ok ha rfl (by show 1 < 2; omega), upr_off _ _ _ hne]
theorem sg189_0g (X : XE) (cl : XCl) (S : List XC) (iv : Nat → Nat → Int32) (lv : Nat → Nat → Int64) (a b : Nat) : run X cl false 0 xc189 0 [some (.inr (.inr (some a))), some (.inr (.inr (some b))), none] [] (S, iv, lv) = obj S (some a) 9 0 (fun _ c1 => obj S (some b) 9 0 (fun _ c2 => objR S (c1.2.2.getD 0 none) 7 (fun a3 => bV (cl 109 [.inr (.inr (some a3)), .inr (.inr (c2.2.2.getD 0 none))] (S, iv, lv)) (fun h => run X cl false 0 xc189 11 [some (.inr (.inr (some a))), some (.inr (.inr (some b))), none] [] h)))) := seg_of (chk_pos xk189) [11] 12 rfl
theorem sg189_11g (X : XE) (cl : XCl) (S : List XC) (iv : Nat → Nat → Int32) (lv : Nat → Nat → Int64) (a b : Nat) : run X cl false 0 xc189 11 [some (.inr (.inr (some a))), some (.inr (.inr (some b))), none] [] (S, iv, lv) = obj S (some a) 9 1 (fun _ c1 => obj S (some b) 9 1 (fun _ c2 => objR S (c1.2.2.getD 1 none) 0 (fun a3 => bV (cl 190 [.inr (.inr (some a3)), .inr (.inr (c2.2.2.getD 1 none))] (S, iv, lv)) (fun h => run X cl false 0 xc189 22 [some (.inr (.inr (some a))), some (.inr (.inr (some b))), none] [] h)))) := seg_of (chk_pos xk189) [22] 12 rfl
theorem sg189_22g (X : XE) (cl : XCl) (S : List XC) (iv : Nat → Nat → Int32) (lv : Nat → Nat → Int64) (a b : Nat) : run X cl false 0 xc189 22 [some (.inr (.inr (some a))), some (.inr (.inr (some b))), none] [] (S, iv, lv) = obj S (some b) 9 2 (fun _ c1 => obj S (some a) 9 2 (fun _ c2 => obj S (some a) 9 2 (fun _ c3 => alen X S (c3.2.2.getD 2 none) (fun n => run X cl false 0 xc189 37 [some (.inr (.inr (some a))), some (.inr (.inr (some b))), none] [.inl n, .inl (nI 0), .inr (.inr (c2.2.2.getD 2 none)), .inl (nI 0), .inr (.inr (c1.2.2.getD 2 none))] (S, iv, lv))))) := seg_of (chk_pos xk189) [37] 12 rfl
theorem sg189_40g (X : XE) (cl : XCl) (S : List XC) (iv : Nat → Nat → Int32) (lv : Nat → Nat → Int64) (a b : Nat) : run X cl false 0 xc189 40 [some (.inr (.inr (some a))), some (.inr (.inr (some b))), none] [] (S, iv, lv) = run X cl false 0 xc189 42 [some (.inr (.inr (some a))), some (.inr (.inr (some b))), some (.inl (nI 0))] [] (S, iv, lv) := seg_of (chk_pos xk189) [42] 12 rfl
theorem sg189_42g (X : XE) (cl : XCl) (S : List XC) (iv : Nat → Nat → Int32) (lv : Nat → Nat → Int64) (a b : Nat) (j : Int32) : run X cl false 0 xc189 42 [some (.inr (.inr (some a))), some (.inr (.inr (some b))), some (.inl j)] [] (S, iv, lv) = obj S (some a) 9 3 (fun _ c1 => alen X S (c1.2.2.getD 3 none) (fun n => if n ≤ j then run X cl false 0 xc189 69 [some (.inr (.inr (some a))), some (.inr (.inr (some b))), some (.inl j)] [] (S, iv, lv) else obj S (some a) 9 3 (fun _ c2 => obj S (some b) 9 3 (fun _ c3 => arrR S (c3.2.2.getD 3 none) j (fun _ rs _ => if lowR (rs.getD j.toNatClampNeg none) = true then arrR S (c2.2.2.getD 3 none) j (fun a' rs' c' => if fitR S c'.1 (rs.getD j.toNatClampNeg none) = true ∧ j.toNatClampNeg < rs'.length then run X cl false 0 xc189 42 [some (.inr (.inr (some a))), some (.inr (.inr (some b))), some (.inl (j + nI 1))] [] (S.set a' (c'.1, c'.2.1, rs'.set j.toNatClampNeg (rs.getD j.toNatClampNeg none)), iv, lv) else none) else none))))) := seg_of (chk_pos xk189) [42, 69] 20 rfl
theorem sg189_69g (X : XE) (cl : XCl) (S : List XC) (iv : Nat → Nat → Int32) (lv : Nat → Nat → Int64) (a b : Nat) (j : Int32) : run X cl false 0 xc189 69 [some (.inr (.inr (some a))), some (.inr (.inr (some b))), some (.inl j)] [] (S, iv, lv) = obj S (some b) 9 4 (fun b' _ => obj S (some a) 9 4 (fun a' _ => obj S (some b) 9 5 (fun b2 _ => obj S (some a) 9 5 (fun a2 _ => some (none, (S, upd2 (upd2 iv a' 4 (iv b' 4)) a2 5 ((upd2 iv a' 4 (iv b' 4)) b2 5), lv)))))) := seg_of (chk_pos xk189) [] 20 rfl
theorem arrR_ok {ρ : Type} {S : List XC} {a : Nat} {i : Int32} {c : XC} (h : S[a]? = some c) (h1 : c.1 = 54) (h2 : inb i c.2.1 = true) (k : Nat → List (Option Nat) → XC → Option ρ) : arrR S (some a) i k = k a c.2.2 c := by
  simp only [arrR, h]
  rw [if_pos (Or.inr h1), if_pos h2]
theorem lst6 {r rs : List (Option Nat)} (h1 : r.length = 6) (h2 : rs.length = 6) (h : ∀ i, i < 6 → r.getD i none = rs.getD i none) : r = rs := by
  refine List.ext_getElem (by rw [h1, h2]) (fun i hi1 hi2 => ?_)
  have := h i (by omega)
  rw [List.getD_eq_getElem?_getD, List.getD_eq_getElem?_getD, List.getElem?_eq_getElem hi1, List.getElem?_eq_getElem hi2] at this
  exact this
theorem getD_set (r : List (Option Nat)) (k : Nat) (x : Option Nat) (i : Nat) (hk : k < r.length) : (r.set k x).getD i none = if i = k then x else r.getD i none := by
  rw [List.getD_eq_getElem?_getD, List.getElem?_set, List.getD_eq_getElem?_getD]
  by_cases c : k = i
  · subst c; rw [if_pos rfl, if_pos hk, if_pos rfl]; rfl
  · rw [if_neg c, if_neg (fun e => c e.symm)]
theorem set_o {S : List XC} {a b : Nat} {c : XC} (h : S[a]? = some c) (hn : b ≠ a) (d : XC) : (S.set b d)[a]? = some c := by rw [List.getElem?_set_ne hn]; exact h
theorem set_s {S : List XC} {a : Nat} {c : XC} (h : S[a]? = some c) (d : XC) : (S.set a d)[a]? = some d := by rw [List.getElem?_set_self (getE_lt h)]
theorem set_set (S : List XC) (a : Nat) (c d : XC) : (S.set a c).set a d = S.set a d := by simp
theorem ne_k {S : List XC} {a b : Nat} {c d : XC} (h1 : S[a]? = some c) (h2 : S[b]? = some d) (h : c.1 ≠ d.1) : a ≠ b := by
  intro e; subst e; rw [h1] at h2; injection h2 with h2; exact h (by rw [h2])
/-- the laws' references copied -/
theorem c_lwcopy {X : XE} {cl : XCl} {S : List XC} (iv : Nat → Nat → Int32) (lv : Nat → Nat → Int64) {a b sa ca da ea fa ra sb cb db eb fb rb : Nat} {rs rsb : List (Option Nat)} (ha : wS S a sa ca da ea fa ra rs) (hb : wS S b sb cb db eb fb rb rsb) (hr : ra ≠ rb) (hk : rsOK S rsb) : ∀ (m j : Nat) (r : List (Option Nat)), j + m = 6 → r.length = 6 → (∀ i, i < j → r.getD i none = rsb.getD i none) → run X cl false 0 xc189 42 [some (.inr (.inr (some a))), some (.inr (.inr (some b))), some (.inl (nI j))] [] (S.set ra (54, 6, r), iv, lv) = run X cl false 0 xc189 69 [some (.inr (.inr (some a))), some (.inr (.inr (some b))), some (.inl (nI 6))] [] (S.set ra (54, 6, rsb), iv, lv) := by
  obtain ⟨a1, a2, a3, a4, a5, a6, a7, a8, a9, a10, a11⟩ := ha
  obtain ⟨b1, b2, b3, b4, b5, b6, b7, b8, b9, b10, b11⟩ := hb
  have na : ra ≠ a := ne_k a7 a1 (by show (54 : Nat) ≠ 9; decide)
  have nb : ra ≠ b := ne_k a7 b1 (by show (54 : Nat) ≠ 9; decide)
  intro m
  induction m with
  | zero =>
    intro j r hj hl hi
    have s1 := set_o a1 na (54, 6, r)
    have s7 := set_s a7 (54, 6, r)
    rw [sg189_42g, obj_ok s1 rfl (by show 3 < 6; omega)]
    show alen X _ (some ra) _ = _
    rw [alen_ok X a11 s7 (by show 50 ≤ 54; omega), if_pos (show nI 6 ≤ nI j from nI_le (by omega) (by omega)), lst6 hl b8 (fun i hh => hi i (by omega)), show j = 6 by omega]
  | succ m ih =>
    intro j r hj hl hi
    have s1 := set_o a1 na (54, 6, r)
    have t1 := set_o b1 nb (54, 6, r)
    have s7 := set_s a7 (54, 6, r)
    have t7 := set_o b7 hr (54, 6, r)
    rw [sg189_42g, obj_ok s1 rfl (by show 3 < 6; omega)]
    show alen X _ (some ra) _ = _
    rw [alen_ok X a11 s7 (by show 50 ≤ 54; omega), if_neg (show ¬ nI 6 ≤ nI j from nI_ge (by omega) (by omega)), obj_ok s1 rfl (by show 3 < 6; omega), obj_ok t1 rfl (by show 3 < 6; omega)]
    show arrR _ (some rb) (nI j) _ = _
    rw [arrR_ok t7 rfl (inb_nI (show j < 6 by omega) (by omega)), nI_clamp (by omega)]
    have lo : lowR (rsb.getD j none) = true ∧ fitR (S.set ra (54, 6, r)) 54 (rsb.getD j none) = true := by
      cases hx : rsb.getD j none with
      | none => exact ⟨rfl, rfl⟩
      | some x =>
        obtain ⟨k1, n, l, k2⟩ := hk j x (by omega) hx
        refine ⟨by simp [lowR, k1], ?_⟩
        have nx : ra ≠ x := ne_k a7 k2 (by show (54 : Nat) ≠ 5; decide)
        simp [fitR, set_o k2 nx (54, 6, r)]
    rw [if_pos (show lowR (rsb.getD j none) = true from lo.1)]
    show arrR _ (some ra) (nI j) _ = _
    rw [arrR_ok s7 rfl (inb_nI (show j < 6 by omega) (by omega)), if_pos ⟨lo.2, by show j < r.length; omega⟩, nI_add]
    show run X cl false 0 xc189 42 _ [] ((S.set ra (54, 6, r)).set ra (54, 6, r.set j (rsb.getD j none)), iv, lv) = _
    rw [set_set]
    refine ih (j + 1) (r.set j (rsb.getD j none)) (by omega) (by rw [List.length_set]; exact hl) (fun i hh => ?_)
    rw [getD_set _ _ _ _ (by omega)]
    split
    · rename_i e; rw [e]
    · exact hi i (by omega)
theorem ne_c {S : List XC} {a b : Nat} {c d : XC} (h1 : S[a]? = some c) (h2 : S[b]? = some d) (h : c ≠ d) : a ≠ b := by
  intro e; subst e; rw [h1] at h2; injection h2 with h2; exact h h2
/-- World.copyFrom -/
theorem c_wcopy {X : XE} {d : Nat} {S : List XC} (iv : Nat → Nat → Int32) (lv : Nat → Nat → Int64) {a b sa ca da ea fa ra sb cb db eb fb rb : Nat} {rs rsb : List (Option Nat)} (ha : wS S a sa ca da ea fa ra rs) (hb : wS S b sb cb db eb fb rb rsb) (hk : rsOK S rsb) (hab : a ≠ b) (hc : ca ≠ cb) (hd : da ≠ db) (he : ea ≠ eb) (hf : fa ≠ fb) (hr : ra ≠ rb) : ∃ iv', call X xT (d + 2) 189 [.inr (.inr (some a)), .inr (.inr (some b))] (S, iv, lv) = some (none, (S.set ra (54, 6, rsb), iv', lv)) ∧ (∀ j, j < 59 → iv' ca j = iv cb j) ∧ iv' da 1 = iv db 1 ∧ (∀ j, j < 40 → iv' ea j = iv eb j) ∧ (∀ j, j < 6 → iv' fa j = iv fb j) ∧ iv' a 4 = iv b 4 ∧ iv' a 5 = iv b 5 ∧ fr [a, ca, da, ea, fa] iv iv' := by
  have loop := fun iv => c_lwcopy (X := X) (cl := call X xT (d + 1)) iv lv ha hb hr hk 6 0 rs (by omega) ha.2.2.2.2.2.2.2.1 (fun i h => by omega)
  obtain ⟨a1, a2, a3, a4, a5, a6, a7, a8, a9, a10, a11⟩ := ha
  obtain ⟨b1, b2, b3, b4, b5, b6, b7, b8, b9, b10, b11⟩ := hb
  have srs : S.set ra (54, 6, rs) = S := by
    refine List.ext_getElem? (fun i => ?_)
    rw [List.getElem?_set]
    split
    · rename_i e; subst e; rw [if_pos (getE_lt a7)]; exact a7.symm
    · rfl
  rw [ce189 (Nat.le_of_ble_eq_true rfl)]
  show ∃ iv', run X _ false 0 xc189 0 [some (.inr (.inr (some a))), some (.inr (.inr (some b))), none] [] _ = _ ∧ _
  rw [sg189_0g, obj_ok a1 rfl (by show 0 < 6; omega), obj_ok b1 rfl (by show 0 < 6; omega)]
  show ∃ iv', objR S (some sa) 7 _ = _ ∧ _
  rw [objR_ok a2 rfl]
  show ∃ iv', bV (call X xT (d + 1) 109 [.inr (.inr (some sa)), .inr (.inr (some sb))] (S, iv, lv)) _ = _ ∧ _
  rw [c_sccopy iv lv a2 b2 a3 b3, bV_some, sg189_11g, obj_ok a1 rfl (by show 1 < 6; omega), obj_ok b1 rfl (by show 1 < 6; omega)]
  show ∃ iv', objR S (some da) 0 _ = _ ∧ _
  rw [objR_ok a4 rfl]
  show ∃ iv', bV (call X xT (d + 1) 190 [.inr (.inr (some da)), .inr (.inr (some db))] (S, _, lv)) _ = _ ∧ _
  rw [c_decopy _ lv a4 b4 a5 b5 a10 (ne_k b4 a5 (by show (0 : Nat) ≠ 50; decide)), bV_some, sg189_22g, obj_ok b1 rfl (by show 2 < 6; omega), obj_ok a1 rfl (by show 2 < 6; omega), obj_ok a1 rfl (by show 2 < 6; omega)]
  show ∃ iv', alen X S (some fa) _ = _ ∧ _
  rw [alen_ok X a9 a6 (by show 50 ≤ 50; omega), si189_37]
  show ∃ iv', xcopy (S, _, lv) fb (nI 0) fa (nI 0) (nI 6) _ = _ ∧ _
  rw [xcopy_ok _ lv b6 a6 (by omega) (by omega) (by omega) (by omega)]
  show ∃ iv', run X _ false 0 xc189 40 [some (.inr (.inr (some a))), some (.inr (.inr (some b))), none] [] (S, _, lv) = _ ∧ _
  rw [sg189_40g]
  have l0 := fun iv => (loop iv)
  rw [srs] at l0
  rw [l0]
  have na : ra ≠ a := ne_k a7 a1 (by show (54 : Nat) ≠ 9; decide)
  have nb : ra ≠ b := ne_k a7 b1 (by show (54 : Nat) ≠ 9; decide)
  have s1 := set_o a1 na (54, 6, rsb)
  have t1 := set_o b1 nb (54, 6, rsb)
  rw [sg189_69g, obj_ok t1 rfl (by show 4 < 6; omega), obj_ok s1 rfl (by show 4 < 6; omega), obj_ok t1 rfl (by show 5 < 6; omega), obj_ok s1 rfl (by show 5 < 6; omega)]
  -- cells that differ
  have aca : a ≠ ca := ne_k a1 a3 (by show (9 : Nat) ≠ 50; decide)
  have ada : a ≠ da := ne_k a1 a4 (by show (9 : Nat) ≠ 0; decide)
  have aea : a ≠ ea := ne_k a1 a5 (by show (9 : Nat) ≠ 50; decide)
  have afa : a ≠ fa := ne_k a1 a6 (by show (9 : Nat) ≠ 50; decide)
  have bca : b ≠ ca := ne_k b1 a3 (by show (9 : Nat) ≠ 50; decide)
  have bda : b ≠ da := ne_k b1 a4 (by show (9 : Nat) ≠ 0; decide)
  have bea : b ≠ ea := ne_k b1 a5 (by show (9 : Nat) ≠ 50; decide)
  have bfa : b ≠ fa := ne_k b1 a6 (by show (9 : Nat) ≠ 50; decide)
  have cda : ca ≠ da := ne_k a3 a4 (by show (50 : Nat) ≠ 0; decide)
  have cea : ca ≠ ea := ne_c a3 a5 (by decide)
  have cfa : ca ≠ fa := ne_c a3 a6 (by decide)
  have eda : ea ≠ da := ne_k a5 a4 (by show (50 : Nat) ≠ 0; decide)
  have efa : ea ≠ fa := ne_c a5 a6 (by decide)
  have dfa : da ≠ fa := ne_k a4 a6 (by show (0 : Nat) ≠ 50; decide)
  have dbc : db ≠ ca := ne_k b4 a3 (by show (0 : Nat) ≠ 50; decide)
  have ebc : eb ≠ ca := ne_c b5 a3 (by decide)
  have ebd : eb ≠ da := ne_k b5 a4 (by show (50 : Nat) ≠ 0; decide)
  have fbc : fb ≠ ca := ne_c b6 a3 (by decide)
  have fbe : fb ≠ ea := ne_c b6 a5 (by decide)
  have fbd : fb ≠ da := ne_k b6 a4 (by show (50 : Nat) ≠ 0; decide)
  refine ⟨_, rfl, fun j hj => ?_, ?_, fun j hj => ?_, fun j hj => ?_, ?_, ?_, ?_⟩
  · rw [upd2_off _ _ _ _ (Ne.symm aca), upd2_off _ _ _ _ (Ne.symm aca), upr_off _ _ _ cfa, upd2_off _ _ _ _ cda, upr_off _ _ _ cea, upr_self, pk_cpy_in (by omega) (by omega), show 0 + (j - 0) = j by omega]
  · rw [upd2_off _ _ _ _ (Ne.symm ada), upd2_off _ _ _ _ (Ne.symm ada), upr_off _ _ _ dfa, upd2_self, upr_off _ _ _ dbc]
  · rw [upd2_off _ _ _ _ (Ne.symm aea), upd2_off _ _ _ _ (Ne.symm aea), upr_off _ _ _ efa, upd2_off _ _ _ _ eda, upr_self, pk_cpy_in (by omega) (by omega), upr_off _ _ _ ebc, show 0 + (j - 0) = j by omega]
  · rw [upd2_off _ _ _ _ (Ne.symm afa), upd2_off _ _ _ _ (Ne.symm afa), upr_self, pk_cpy_in (by omega) (by omega), upd2_off _ _ _ _ fbd, upr_off _ _ _ fbe, upr_off _ _ _ fbc, show 0 + (j - 0) = j by omega]
  · rw [upd2_ne _ _ _ _ (by omega), upd2_self, upr_off _ _ _ bfa, upd2_off _ _ _ _ bda, upr_off _ _ _ bea, upr_off _ _ _ bca]
  · rw [upd2_self, upd2_off _ _ _ _ (Ne.symm hab), upr_off _ _ _ bfa, upd2_off _ _ _ _ bda, upr_off _ _ _ bea, upr_off _ _ _ bca]
  · exact ((((fr_upr _ _ (by simp)).tr (fr_upr _ _ (by simp))).tr (fr_upd _ _ _ (by simp))).tr (fr_upr _ _ (by simp))).tr ((fr_upd _ _ _ (by simp)).tr (fr_upd _ _ _ (by simp)))
