/-! the class reads an order; a text -/
section ro
variable {X : XE} {im lw : List (Option Nat)} {tl : List XC} {lv : Nat → Nat → Int64} {q : Bool} {tk pl : Nat → Nat} {nt : Nat}
theorem c_ord1 (d : Nat) (he : tk nt = 9999) {iv : Nat → Nat → Int32} {gs : List GC} {c i : Nat} (hm : gs.length < 12) (h : stC q tk pl nt iv (cA gs) c i) (h3 : iv 12 3 = nI gs.length) (hr : rowsC iv gs) : poL im lw tl lv pl iv (pOrd q tk c i) (QC q tk pl nt gs) (call X xT (d + 36) 83 [.inr (.inr (some 11))] (SS im lw tl, iv, lv)) := by
  have ht := h.t
  have hCi : (cA gs).length ≤ i := h.2.2.2.2.2.2.2.1
  rw [tr83, h.2.2.2.2.1, c_within X (d + 34), bI_some, sg83_14, b2i_ite, inV_tI ht (by omega) (by omega)]
  unfold pOrd
  by_cases e : 2004 ≤ tk i ∧ tk i ≤ 2007
  · rw [if_pos (decide_eq_true e), if_pos e]
    have ek : tI (tk i) - nI 2004 = nI (tk i - 2004) := by unfold tI; rw [if_neg (by omega), pk_sub (by omega)]
    obtain ⟨iv1, a1, a2, a3, a4, a5, a6, a7, a8, a9, a10⟩ := c_open (X := X) (im := im) (lw := lw) (tl := tl) (lv := lv) (d + 33) hm h h3 (nI (tk i - 2004))
    obtain ⟨iv2, b1, b2, b3⟩ := c_next X im lw tl lv (d + 34) a2 (a2.lt (show tk i ≤ 4000 by omega) rfl)
    rw [ek, a1, bV_some, sg83_30, b1, bV_some, sg83_34]
    have f2 : fr [11, 12, 13, 14] iv iv2 := a4.tr b3.L
    have i3 : iv2 12 3 = nI (gs.length + 1) := by rw [b3.m.2]; exact a3
    have lo : ∀ k, k < gs.length * 5 → iv2 14 k = iv 14 k := fun k hk => by rw [b3.m.1]; exact a10 k (Or.inl hk)
    rw [← b3.m.1] at a5 a6 a7 a8 a9
    by_cases e3 : tk i = 2007
    · rw [if_pos (show nI (tk i - 2004) = nI 3 by rw [e3]), if_pos e3]
      refine poL_tr (poL_bI (c_times (d + 31) hm b2 i3 a6) (fun iv' => by rw [sg83_88, if_pos n0z]) (fun tm c1 i1 iv3 hq hQ hf => ?_)) f2
      obtain ⟨q1, q2, q3⟩ := hQ
      rw [sg83_88, if_neg n1z]
      refine poL_tr (poL_bI (c_if (d + 0) he hm q1 q2) (fun iv' => by rw [sg83_95, if_pos n0z]) (fun t c2 i2 iv4 hq2 hQ2 hf2 => ?_)) hf
      obtain ⟨r1, r2, r3⟩ := hQ2
      rw [sg83_95, if_neg n1z]
      refine ⟨iv4, rfl, ⟨?_, r2, rows_snoc hr (fun k hk => ?_) (fun k hk => ?_)⟩, hf2⟩
      · rw [cA_snoc]; exact r1
      · rw [r3, if_neg (by omega), q3, if_neg (by omega)]; exact lo k hk
      · rw [r3, q3]
        have : k = 0 ∨ k = 1 ∨ k = 2 ∨ k = 3 ∨ k = 4 := by omega
        rcases this with rfl | rfl | rfl | rfl | rfl
        · rw [if_neg (by omega), if_neg (by omega)]; exact a5.trans (by rw [e3]; rfl)
        · rw [if_neg (by omega), if_pos rfl]; rfl
        · rw [if_neg (by omega), if_neg (by omega)]; exact a7
        · rw [if_neg (by omega), if_neg (by omega)]; exact a8
        · cases t with
          | none => rw [if_neg (fun z => by cases z.2), if_neg (by omega)]; exact a9
          | some t => rw [if_pos ⟨rfl, rfl⟩]; rfl
    · have ne : ¬ nI (tk i - 2004) = nI 3 := fun z => by have := congrArg Int32.toNatClampNeg z; rw [nI_clamp (by omega), nI_clamp (by omega)] at this; omega
      rw [if_neg ne, if_neg e3]
      refine poL_tr (poL_bI (c_wsum (d + 0) he hm (k := 2) (by omega) b2 i3 (by omega)) (fun iv' => by rw [sg83_44, if_pos n0z]) (fun ex c1 i1 iv3 hq hQ hf => ?_)) f2
      obtain ⟨q1, q2, q3⟩ := hQ
      -- the word between the two
      have tw : ∀ w, w ≤ 4000 → w = (if tk i = 2004 then 2008 else 2009) → poL im lw tl lv pl iv2 (if tk i1 = (if tk i = 2004 then 2008 else 2009) then thn (pSum q tk 8 c1 (i1 + 1)) (fun e2 c2 i2 => thn (pTimes tk c2 i2) (fun m c3 i3 => thn (pIf q tk c3 i3) (fun t c4 i4 => .inr ((tk i - 2004, m, some ex, some e2, t), c4, i4)))) else .inl i1) (QC q tk pl nt gs) (bI (call X xT (d + 35) 92 [.inr (.inr (some 11)), .inl (nI w)] (SS im lw tl, iv3, lv)) (fun r4 h3 => run X (call X xT (d + 35)) false 4 xc83 66 [some (.inr (.inr (some 11))), some (.inl (nI (tk i - 2004)))] [.inl r4] h3)) := by
        intro w hw ew
        obtain ⟨iv4, d1, d2, d3⟩ := c_takes X im lw tl lv (d + 33) q1 hw
        rw [d1, bI_some, sg83_66, b2i_ite, ← ew]
        by_cases ei : tk i1 = w
        · rw [if_pos ei, if_pos (decide_eq_true ei)]
          rw [if_pos ei] at d2
          have q1l : (cA gs ++ sE (some ex)).length ≤ i1 := q1.2.2.2.2.2.2.2.1
          refine poL_tr (poL_bI (c_wsum (d + 0) he hm (k := 3) (by omega) d2 (by rw [d3.2]; exact q2) (by omega)) (fun iv' => by rw [sg83_79, if_pos n0z]) (fun e2 c2 i2 iv5 hq5 hQ5 hf5 => ?_)) (hf.tr d3.L)
          obtain ⟨s1, s2, s3⟩ := hQ5
          rw [sg83_79, if_neg n1z]
          have x1 : iv5 14 (gs.length * 5 + 1) = nI 1 := by rw [s3, if_neg (by omega), d3.m.1, q3, if_neg (by omega)]; exact a6
          refine poL_tr (poL_bI (c_times (d + 31) hm s1 s2 x1) (fun iv' => by rw [sg83_88, if_pos n0z]) (fun tm c3 i3 iv6 hq6 hQ6 hf6 => ?_)) hf5
          obtain ⟨u1, u2, u3⟩ := hQ6
          rw [sg83_88, if_neg n1z]
          refine poL_tr (poL_bI (c_if (d + 0) he hm u1 u2) (fun iv' => by rw [sg83_95, if_pos n0z]) (fun t c4 i4 iv7 hq7 hQ7 hf7 => ?_)) hf6
          obtain ⟨w1, w2, w3⟩ := hQ7
          rw [sg83_95, if_neg n1z]
          have z7 : ∀ k, iv7 14 k = if k = gs.length * 5 + 4 ∧ t.isSome = true then nI (cA gs ++ sE (some ex) ++ sE (some e2)).length else if k = gs.length * 5 + 1 then nI tm else if k = gs.length * 5 + 3 then nI (cA gs ++ sE (some ex)).length else if k = gs.length * 5 + 2 then nI (cA gs).length else iv2 14 k := fun k => by
            rw [w3, u3, s3, d3.m.1, q3]
          refine ⟨iv7, rfl, ⟨?_, w2, rows_snoc hr (fun k hk => ?_) (fun k hk => ?_)⟩, hf7⟩
          · rw [cA_snoc]
            show stC q tk pl nt iv7 (cA gs ++ (sE (some ex) ++ (sE (some e2) ++ sT t ((cA gs).length + (sE (some ex)).length + (sE (some e2)).length)))) c4 i4
            rw [← List.append_assoc, ← List.append_assoc, ← List.length_append, ← List.length_append]
            exact w1
          · rw [z7, if_neg (by omega), if_neg (by omega), if_neg (by omega), if_neg (by omega)]; exact lo k hk
          · rw [z7]
            have : k = 0 ∨ k = 1 ∨ k = 2 ∨ k = 3 ∨ k = 4 := by omega
            rcases this with rfl | rfl | rfl | rfl | rfl
            · rw [if_neg (by omega), if_neg (by omega), if_neg (by omega), if_neg (by omega)]; exact a5
            · rw [if_neg (by omega), if_pos rfl]; rfl
            · rw [if_neg (by omega), if_neg (by omega), if_neg (by omega), if_pos rfl]; rfl
            · rw [if_neg (by omega), if_neg (by omega), if_pos rfl, List.length_append]; rfl
            · cases t with
              | none => rw [if_neg (fun z => by cases z.2), if_neg (by omega), if_neg (by omega), if_neg (by omega)]; exact a9
              | some t =>
                rw [if_pos ⟨rfl, rfl⟩, List.length_append, List.length_append]
                rfl
        · rw [if_neg ei, if_neg (show ¬ decide (tk i1 = w) = true by rw [decide_eq_false ei]; decide)]
          rw [if_neg ei] at d2
          exact poL_tr (poL_f (m := d + 34) d2 (fun iv' => by rw [sg83_73, if_pos (by decide)])) (hf.tr d3.L)
      rw [sg83_44, if_neg n1z]
      by_cases e4 : tk i = 2004
      · rw [if_pos (show nI (tk i - 2004) = 0 by rw [e4]; decide)]
        exact tw 2008 (by omega) (by rw [if_pos e4])
      · have nz : ¬ nI (tk i - 2004) = 0 := fun z => by have := congrArg Int32.toNatClampNeg z; rw [nI_clamp (by omega)] at this; have : tk i - 2004 = 0 := this; omega
        rw [if_neg nz]
        exact tw 2009 (by omega) (by rw [if_neg e4])
  · rw [if_neg (show ¬ decide (2004 ≤ tk i ∧ tk i ≤ 2004 + 3) = true by rw [decide_eq_false (by omega)]; decide), if_neg e]
    exact poL_f (m := d + 34) h (fun iv' => by rw [sg83_21, if_pos (by decide)])
/-- a text read: fault, or its clauses in the program -/
def poT (im lw : List (Option Nat)) (tl : List XC) (lv : Nat → Nat → Int64) (pl : Nat → Nat) (iv : Nat → Nat → Int32) (r : Nat ⊕ List GC) (T : Option XR) : Prop := match r with
  | .inl e => ∃ iv', T = some (some (.inl (nI 0)), (SS im lw tl, iv', lv)) ∧ iv' 11 8 = nI (pl e) ∧ fr [11, 12, 13, 14] iv iv'
  | .inr gs => ∃ iv', T = some (some (.inl (nI 1)), (SS im lw tl, iv', lv)) ∧ iv' 11 8 = -1 ∧ gs.length ≤ 12 ∧ iv' 12 3 = nI gs.length ∧ iv' 12 2 = nI (cA gs).length ∧ (cA gs).length ≤ 400 ∧ (∀ k x, (cA gs)[k]? = some x → iv' 13 k = nI (x.2 * 16 + x.1)) ∧ rowsC iv' gs ∧ fr [11, 12, 13, 14] iv iv'
theorem poT_tr {iv iv2 : Nat → Nat → Int32} {r : Nat ⊕ List GC} {T : Option XR} (h : poT im lw tl lv pl iv2 r T) (hf : fr [11, 12, 13, 14] iv iv2) : poT im lw tl lv pl iv r T := by
  cases r with
  | inl e => obtain ⟨iv', h1, h2, h3⟩ := h; exact ⟨iv', h1, h2, hf.tr h3⟩
  | inr x => obtain ⟨iv', h1, h2, h3, h4, h5, h6, h7, h8, h9⟩ := h; exact ⟨iv', h1, h2, h3, h4, h5, h6, h7, h8, hf.tr h9⟩
end ro
