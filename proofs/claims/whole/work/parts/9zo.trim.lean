/-! the class keeps a law that was read -/
theorem tr106g (X : XE) (d : Nat) (S : List XC) (iv : Nat → Nat → Int32) (lv : Nat → Nat → Int64) (c : Nat) (n : Int32) : call X xT (d + 1) 106 [.inr (.inr (some c)), .inl n] (S, iv, lv) = alen X S (some c) (fun x1 => if n = x1 then xclone (S, iv, lv) c (fun a2 h2 => (match h2.1[a2]? with
    | some cc => if cc.1 = 50 then some (some (.inr (.inr (some a2))), h2) else none
    | none => none)) else if (decide (¬ n < 0) && decide (n.toNatClampNeg ≤ 100000) && decide (0 < akind .int)) = true then alen X (S ++ [(50, n.toNatClampNeg, [])]) (some c) (fun x2 => xcopy (S ++ [(50, n.toNatClampNeg, [])], upr iv S.length zI, upr lv S.length zL) c (nI 0) S.length (nI 0) (if n < x2 then n else x2) (fun h2 => some (some (.inr (.inr (some S.length))), h2))) else none) := call_seg rfl (Nat.le_of_ble_eq_true rfl) (chk_pos xk106) [] 60 rfl
theorem c_copyOf {X : XE} {d : Nat} {S : List XC} (iv : Nat → Nat → Int32) (lv : Nat → Nat → Int64) {c N n : Nat} (hc : S[c]? = some (50, N, [])) (hc2 : c < 1000000) (hn : n ≤ N) (hN : N ≤ 400) : ∃ iv' lv', call X xT (d + 1) 106 [.inr (.inr (some c)), .inl (nI n)] (S, iv, lv) = some (some (.inr (.inr (some S.length))), (S ++ [(50, n, [])], iv', lv')) ∧ (∀ j, j < n → iv' S.length j = iv c j) ∧ (∀ a, a ≠ S.length → iv' a = iv a) ∧ ∀ a, a ≠ S.length → lv' a = lv a := by
  have hcl := getE_lt hc
  rw [tr106g, alen_ok X hc2 hc (show (50 : Nat) ≤ 50 by decide)]
  show ∃ iv' lv', (if nI n = nI N then _ else _) = _ ∧ _
  by_cases e : n = N
  · subst e
    rw [if_pos rfl]
    unfold xclone
    simp only [hc]
    rw [if_pos (by trivial), app_r]
    simp only
    rw [if_pos (by trivial)]
    exact ⟨_, _, rfl, fun j _ => by rw [upr_self], fun a ha => upr_off _ _ _ ha, fun a ha => upr_off _ _ _ ha⟩
  · have ne : ¬ nI n = nI N := fun z => e (by have := congrArg Int32.toNatClampNeg z; rw [nI_clamp (by omega), nI_clamp (by omega)] at this; exact this)
    rw [if_neg ne, nI_clamp (by omega), if_pos (by
      simp only [Bool.and_eq_true, decide_eq_true_eq]
      exact ⟨⟨nI_pos (by omega), by omega⟩, by decide⟩), alen_ok X hc2 (app_l hc _) (show (50 : Nat) ≤ 50 by decide)]
    show ∃ iv' lv', xcopy _ c (nI 0) S.length (nI 0) (if nI n < nI N then nI n else nI N) _ = _ ∧ _
    rw [if_pos (nI_lt (by omega) (by omega)), xcopy_ok (S := S ++ [(50, n, [])]) _ _ (b := c) (a := S.length) (app_l hc _) (app_r _ _) (by omega) (by omega) (by omega) (by omega)]
    refine ⟨_, _, rfl, fun j hj => ?_, fun a ha => ?_, fun a ha => upr_off _ _ _ ha⟩
    · rw [upr_self, pk_cpy_in (by omega) (by omega), upr_off _ _ _ (by omega), show 0 + (j - 0) = j by omega]
    · rw [upr_off _ _ _ ha, upr_off _ _ _ ha]
theorem tr8g (X : XE) (d : Nat) (S : List XC) (iv : Nat → Nat → Int32) (lv : Nat → Nat → Int64) (a : Nat) (r r2 : Option Nat) (x y : Int32) : call X xT (d + 1) 8 [.inr (.inr (some a)), .inr (.inr r), .inr (.inr r2), .inl x, .inl y] (S, iv, lv) = if xcats ([] : XS) ≤ 8 ∧ a < 1000000 then obj S (some a) 5 0 (fun a1 c1 => if true = true ∧ 0 < c1.2.2.length then obj (S.set a1 (c1.1, c1.2.1, c1.2.2.set 0 r)) (some a) 5 1 (fun a2 c2 => if true = true ∧ 1 < c2.2.2.length then obj ((S.set a1 (c1.1, c1.2.1, c1.2.2.set 0 r)).set a2 (c2.1, c2.2.1, c2.2.2.set 1 r2)) (some a) 5 2 (fun a3 _ => obj ((S.set a1 (c1.1, c1.2.1, c1.2.2.set 0 r)).set a2 (c2.1, c2.2.1, c2.2.2.set 1 r2)) (some a) 5 3 (fun a4 _ => some (none, ((S.set a1 (c1.1, c1.2.1, c1.2.2.set 0 r)).set a2 (c2.1, c2.2.1, c2.2.2.set 1 r2), upd2 (upd2 iv a3 2 x) a4 3 y, lv)))) else none) else none) else none := call_seg rfl (Nat.le_of_ble_eq_true rfl) (chk_pos xk8) [] 60 rfl
theorem c_newProg {X : XE} {d : Nat} (T : List XC) (iv : Nat → Nat → Int32) (lv : Nat → Nat → Int64) (hb : T.length < 999990) (r r2 : Option Nat) (x y : Int32) : call X xT (d + 1) 8 [.inr (.inr (some T.length)), .inr (.inr r), .inr (.inr r2), .inl x, .inl y] (T ++ [(5, 4, [none, none, none, none])], iv, lv) = some (none, (T ++ [(5, 4, [r, r2, none, none])], upd2 (upd2 iv T.length 2 x) T.length 3 y, lv)) := by
  rw [tr8g, if_pos (x8 (by omega)), obj_ok (c := (5, 4, [none, none, none, none])) (lst_r0 rfl) rfl (by show 0 < 4; omega), if_pos ⟨rfl, by show 0 < 4; omega⟩, set_r0]
  show obj (T ++ [(5, 4, [r, none, none, none])]) (some T.length) 5 1 _ = _
  rw [obj_ok (c := (5, 4, [r, none, none, none])) (lst_r0 rfl) rfl (by show 1 < 4; omega), if_pos ⟨rfl, by show 1 < 4; omega⟩, set_r0]
  show obj (T ++ [(5, 4, [r, r2, none, none])]) (some T.length) 5 2 _ = _
  rw [obj_ok (c := (5, 4, [r, r2, none, none])) (lst_r0 rfl) rfl (by show 2 < 4; omega), obj_ok (c := (5, 4, [r, r2, none, none])) (lst_r0 rfl) rfl (by show 3 < 4; omega)]
  rfl
theorem tr105p (X : XE) (d : Nat) (im lw : List (Option Nat)) (tl : List XC) (iv : Nat → Nat → Int32) (lv : Nat → Nat → Int64) : call X xT (d + 1) 105 [.inr (.inr (some 12))] (SS im lw tl, iv, lv) = bR (call X xT d 106 [.inr (.inr (some 13)), .inl (if (nI 0) < iv 12 2 then iv 12 2 else nI 0)] (SS im lw tl, iv, lv)) (fun r h1 => run X (call X xT d) false 3 xc105 15 [some (.inr (.inr (some 12))), none, none] [.inr (.inr r)] h1) := call_seg rfl (Nat.le_of_ble_eq_true rfl) (chk_pos xk105) [15, 33, 51] 400 rfl
theorem sg105_15p (X : XE) (cl : XCl) (im lw : List (Option Nat)) (tl : List XC) (iv : Nat → Nat → Int32) (lv : Nat → Nat → Int64) (r : Option Nat) : run X cl false 3 xc105 15 [some (.inr (.inr (some 12))), none, none] [.inr (.inr r)] (SS im lw tl, iv, lv) = bR (cl 106 [.inr (.inr (some 14)), .inl (if (nI 0) < iv 12 3 * nI 5 then iv 12 3 * nI 5 else nI 0)] (SS im lw tl, iv, lv)) (fun r2 h1 => run X cl false 3 xc105 33 [some (.inr (.inr (some 12))), some (.inr (.inr r)), none] [.inr (.inr r2)] h1) := seg_of (chk_pos xk105) [15, 33, 51] 400 rfl
theorem sg105_33p (X : XE) (cl : XCl) (im lw : List (Option Nat)) (tl : List XC) (iv : Nat → Nat → Int32) (lv : Nat → Nat → Int64) (r r2 : Option Nat) : run X cl false 3 xc105 33 [some (.inr (.inr (some 12))), some (.inr (.inr r)), none] [.inr (.inr r2)] (SS im lw tl, iv, lv) = objR (SS im lw tl ++ [(5, 4, [none, none, none, none])]) (some (SS im lw tl).length) 5 (fun a => bV (cl 8 [.inr (.inr (some a)), .inr (.inr r), .inr (.inr r2), .inl ((upr iv (SS im lw tl).length zI) 12 2), .inl ((upr iv (SS im lw tl).length zI) 12 3)] (SS im lw tl ++ [(5, 4, [none, none, none, none])], upr iv (SS im lw tl).length zI, upr lv (SS im lw tl).length zL)) (fun h1 => run X cl false 3 xc105 51 [some (.inr (.inr (some 12))), some (.inr (.inr r)), some (.inr (.inr r2))] [.inr (.inr (some (SS im lw tl).length))] h1)) := seg_of (chk_pos xk105) [15, 33, 51] 400 rfl
theorem sg105_51p (X : XE) (cl : XCl) (S : List XC) (iv : Nat → Nat → Int32) (lv : Nat → Nat → Int64) (r r2 x : Option Nat) : run X cl false 3 xc105 51 [some (.inr (.inr (some 12))), some (.inr (.inr r)), some (.inr (.inr r2))] [.inr (.inr x)] (S, iv, lv) = some (some (.inr (.inr x)), (S, iv, lv)) := seg_of (chk_pos xk105) [15, 33, 51] 400 rfl
theorem c_trim {X : XE} {d : Nat} (im lw : List (Option Nat)) (tl : List XC) (iv : Nat → Nat → Int32) (lv : Nat → Nat → Int64) {sz cl L : Nat} (hL : (SS im lw tl).length = L) (hLb : L ≤ 500000) (h2 : iv 12 2 = nI sz) (h3 : iv 12 3 = nI cl) (hs : sz ≤ 400) (hc : cl ≤ 12) : ∃ iv' lv', call X xT (d + 2) 105 [.inr (.inr (some 12))] (SS im lw tl, iv, lv) = some (some (.inr (.inr (some (L + 2)))), (SS im lw (tl ++ [(50, sz, []), (50, cl * 5, []), (5, 4, [some L, some (L + 1), none, none])]), iv', lv')) ∧ (∀ j, j < sz → iv' L j = iv 13 j) ∧ (∀ j, j < cl * 5 → iv' (L + 1) j = iv 14 j) ∧ iv' (L + 2) 2 = nI sz ∧ iv' (L + 2) 3 = nI cl ∧ (∀ a, a < L → iv' a = iv a) ∧ ∀ a, a < L → lv' a = lv a := by
  have mx : ∀ m : Nat, m < 2 ^ 31 → (if (nI 0 : Int32) < nI m then nI m else nI 0) = nI m := fun m hm => by
    by_cases z : m = 0
    · rw [z, if_neg (by decide)]
    · rw [if_pos (nI_lt (by omega) hm)]
  have hL79 : 79 ≤ L := by rw [← hL, SS_len]; omega
  obtain ⟨iv1, lv1, a1, a2, a3, a4⟩ := c_copyOf (X := X) (d := d) (S := SS im lw tl) iv lv (c := 13) (N := 400) (n := sz) rfl (by omega) hs (by omega)
  rw [hL] at a1 a2 a3 a4
  obtain ⟨iv2, lv2, b1, b2, b3, b4⟩ := c_copyOf (X := X) (d := d) (S := SS im lw (tl ++ [(50, sz, [])])) iv1 lv1 (c := 14) (N := 60) (n := cl * 5) rfl (by omega) (by omega) (by omega)
  have hL1 : (SS im lw (tl ++ [(50, sz, [])])).length = L + 1 := by rw [SS_len, List.length_append, List.length_singleton]; rw [SS_len] at hL; omega
  rw [hL1] at b1 b2 b3 b4
  have hL2 : (SS im lw (tl ++ [(50, sz, [])] ++ [(50, cl * 5, [])])).length = L + 2 := by rw [SS_len, List.length_append, List.length_append, List.length_singleton, List.length_singleton]; rw [SS_len] at hL; omega
  have e13 : iv1 12 3 = nI cl := by rw [a3 12 (by omega)]; exact h3
  have e22 : iv2 12 2 = nI sz := by rw [b3 12 (by omega), a3 12 (by omega)]; exact h2
  have e23 : iv2 12 3 = nI cl := by rw [b3 12 (by omega)]; exact e13
  have a1 : call X xT (d + 1) 106 [.inr (.inr (some 13)), .inl (nI sz)] (SS im lw tl, iv, lv) = some (some (.inr (.inr (some L))), (SS im lw (tl ++ [(50, sz, [])]), iv1, lv1)) := a1
  have b1 : call X xT (d + 1) 106 [.inr (.inr (some 14)), .inl (nI (cl * 5))] (SS im lw (tl ++ [(50, sz, [])]), iv1, lv1) = some (some (.inr (.inr (some (L + 1)))), (SS im lw (tl ++ [(50, sz, [])] ++ [(50, cl * 5, [])]), iv2, lv2)) := b1
  rw [tr105p, h2, mx sz (by omega), a1]
  show ∃ iv' lv', run X _ false 3 xc105 15 _ [.inr (.inr (some L))] _ = _ ∧ _
  rw [sg105_15p, e13, pk_mul, mx (cl * 5) (by omega), b1]
  show ∃ iv' lv', run X _ false 3 xc105 33 _ [.inr (.inr (some (L + 1)))] _ = _ ∧ _
  rw [sg105_33p, objR_ok (c := (5, 4, [none, none, none, none])) (app_r _ _) rfl, c_newProg (d := d) (SS im lw (tl ++ [(50, sz, [])] ++ [(50, cl * 5, [])])) _ _ (by omega), bV_some, sg105_51p, hL2, upr_off _ _ _ (show 12 ≠ L + 2 by omega), e22, e23]
  refine ⟨upd2 (upd2 (upr iv2 (L + 2) zI) (L + 2) 2 (nI sz)) (L + 2) 3 (nI cl), upr lv2 (L + 2) zL, ?_, fun j hj => ?_, fun j hj => ?_, ?_, ?_, fun a ha => ?_, fun a ha => ?_⟩
  · rw [show tl ++ [(50, sz, []), (50, cl * 5, []), (5, 4, [some L, some (L + 1), none, none])] = tl ++ [(50, sz, [])] ++ [(50, cl * 5, [])] ++ [(5, 4, [some L, some (L + 1), none, none])] by simp]
    rfl
  · rw [upd2_off _ _ _ _ (by omega), upd2_off _ _ _ _ (by omega), upr_off _ _ _ (by omega), b3 L (by omega)]; exact a2 j hj
  · rw [upd2_off _ _ _ _ (by omega), upd2_off _ _ _ _ (by omega), upr_off _ _ _ (by omega), b2 j hj, a3 14 (by omega)]
  · rw [upd2_ne _ _ _ _ (by omega), upd2_self]
  · rw [upd2_self]
  · rw [upd2_off _ _ _ _ (by omega), upd2_off _ _ _ _ (by omega), upr_off _ _ _ (by omega), b3 a (by omega), a3 a (by omega)]
  · rw [upr_off _ _ _ (by omega), b4 a (by omega), a4 a (by omega)]
theorem tr107p (X : XE) (d : Nat) (im lw : List (Option Nat)) (tl : List XC) (iv : Nat → Nat → Int32) (lv : Nat → Nat → Int64) (r : Option Nat) : call X xT (d + 1) 107 [.inr (.inr (some 1)), .inr (.inr r)] (SS im lw tl, iv, lv) = if (nI 6 : Int32) ≤ iv 1 4 then some (some (.inl (iv 1 4 - nI 1)), (SS im lw tl, iv, lv)) else if inb (iv 1 4) 6 = true then if fitR (SS im lw tl) 54 r = true ∧ (iv 1 4).toNatClampNeg < lw.length then some (some (.inl ((iv 1 4 + nI 1) - nI 1)), (SS im (lw.set (iv 1 4).toNatClampNeg r) tl, upd2 iv 1 4 (iv 1 4 + nI 1), lv)) else none else none := call_seg rfl (Nat.le_of_ble_eq_true rfl) (chk_pos xk107) [] 400 rfl
