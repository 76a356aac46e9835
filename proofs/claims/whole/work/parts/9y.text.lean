/-! clauses: kind, times, the two sums, the test -/
abbrev GC : Type := Nat × Nat × Option Ex × Option Ex × Option Te
def sE (e : Option Ex) : Cd := match e with
  | none => []
  | some e => e.1 ++ [(0, 0)]
def sT (t : Option Te) (n : Nat) : Cd := match t with
  | none => []
  | some t => t.1 n ++ [(0, 0)]
def ixE (e : Option Ex) (n : Nat) : Int32 := match e with
  | none => -1
  | some _ => nI n
def ixT (t : Option Te) (n : Nat) : Int32 := match t with
  | none => -1
  | some _ => nI n
def gcC (g : GC) (n : Nat) : Cd := sE g.2.2.1 ++ (sE g.2.2.2.1 ++ sT g.2.2.2.2 (n + (sE g.2.2.1).length + (sE g.2.2.2.1).length))
def rwC (g : GC) (n k : Nat) : Int32 := if k = 0 then nI g.1 else if k = 1 then nI g.2.1 else if k = 2 then ixE g.2.2.1 n else if k = 3 then ixE g.2.2.2.1 (n + (sE g.2.2.1).length) else ixT g.2.2.2.2 (n + (sE g.2.2.1).length + (sE g.2.2.2.1).length)
def cA (gs : List GC) : Cd := gs.foldl (fun C g => C ++ gcC g C.length) []
theorem cA_snoc (gs : List GC) (g : GC) : cA (gs ++ [g]) = cA gs ++ gcC g (cA gs).length := by unfold cA; rw [List.foldl_append]; rfl
def pIf (q : Bool) (tk : Nat → Nat) (c i : Nat) : Rd (Option Te) := if tk i = 2011 then thn (pTest q tk 8 c (i + 1)) (fun t c1 i1 => .inr (some t, c1, i1)) else .inr (none, c, i)
def pTimes (tk : Nat → Nat) (c i : Nat) : Rd Nat := if tk i = 2010 then (match numT (tk (i + 1)) with
    | none => .inl (i + 1)
    | some v => if 1 ≤ v ∧ v ≤ 20 then .inr (v, c, i + 2) else .inl (i + 1)) else .inr (1, c, i)
def pLaw (q : Bool) (tk : Nat → Nat) (c i : Nat) : Rd GC := if 2000 ≤ tk i ∧ tk i ≤ 2003 then (if tk i = 2003 then thn (pIf q tk c (i + 1)) (fun t c1 i1 => .inr ((3, 1, none, none, t), c1, i1)) else thn (pSum q tk 8 c (i + 1)) (fun e c1 i1 => thn (pIf q tk c1 i1) (fun t c2 i2 => .inr ((tk i - 2000, 1, some e, none, t), c2, i2)))) else .inl i
def pOrd (q : Bool) (tk : Nat → Nat) (c i : Nat) : Rd GC := if 2004 ≤ tk i ∧ tk i ≤ 2007 then (if tk i = 2007 then thn (pTimes tk c (i + 1)) (fun m c1 i1 => thn (pIf q tk c1 i1) (fun t c2 i2 => .inr ((3, m, none, none, t), c2, i2)))
    else thn (pSum q tk 8 c (i + 1)) (fun e c1 i1 => if tk i1 = (if tk i = 2004 then 2008 else 2009) then thn (pSum q tk 8 c1 (i1 + 1)) (fun e2 c2 i2 => thn (pTimes tk c2 i2) (fun m c3 i3 => thn (pIf q tk c3 i3) (fun t c4 i4 => .inr ((tk i - 2004, m, some e, some e2, t), c4, i4)))) else .inl i1)) else .inl i
def pCl (q : Bool) (tk : Nat → Nat) (c i : Nat) : Rd GC := if q = true then pOrd q tk c i else pLaw q tk c i
def pText (q : Bool) (tk : Nat → Nat) : Nat → List GC → Nat → Nat → Nat ⊕ List GC
  | 0, _, _, i => .inl i
  | k + 1, gs, c, i => match pCl q tk c i with
    | .inl e => .inl e
    | .inr x => if tk x.2.2 = 9999 then .inr (gs ++ [x.1]) else if tk x.2.2 = 59 then pText q tk k (gs ++ [x.1]) x.2.1 (x.2.2 + 1) else .inl x.2.2
section tx
variable {X : XE} {im lw : List (Option Nat)} {tl : List XC} {lv : Nat → Nat → Int64} {q : Bool} {tk pl : Nat → Nat} {nt : Nat}
def poL (im lw : List (Option Nat)) (tl : List XC) (lv : Nat → Nat → Int64) (pl : Nat → Nat) {α : Type} (iv : Nat → Nat → Int32) (r : Rd α) (Q : α → Nat → Nat → (Nat → Nat → Int32) → Prop) (T : Option XR) : Prop := match r with
  | .inl e => ∃ iv', T = some (some (.inl (nI 0)), (SS im lw tl, iv', lv)) ∧ iv' 11 8 = nI (pl e) ∧ fr [11, 12, 13, 14] iv iv'
  | .inr x => ∃ iv', T = some (some (.inl (nI 1)), (SS im lw tl, iv', lv)) ∧ Q x.1 x.2.1 x.2.2 iv' ∧ fr [11, 12, 13, 14] iv iv'
theorem poL_tr {α : Type} {iv iv2 : Nat → Nat → Int32} {r : Rd α} {Q : α → Nat → Nat → (Nat → Nat → Int32) → Prop} {T : Option XR} (h : poL im lw tl lv pl iv2 r Q T) (hf : fr [11, 12, 13, 14] iv iv2) : poL im lw tl lv pl iv r Q T := by
  cases r with
  | inl e => obtain ⟨iv', h1, h2, h3⟩ := h; exact ⟨iv', h1, h2, hf.tr h3⟩
  | inr x => obtain ⟨iv', h1, h2, h3⟩ := h; exact ⟨iv', h1, h2, hf.tr h3⟩
theorem poL_bI {α β : Type} {iv : Nat → Nat → Int32} {r : Rd α} {Q : α → Nat → Nat → (Nat → Nat → Int32) → Prop} {Q2 : β → Nat → Nat → (Nat → Nat → Int32) → Prop} {T : Option XR} {f : α → Nat → Nat → Rd β} {K : Int32 → XH → Option XR} (h : poL im lw tl lv pl iv r Q T) (h0 : ∀ iv', K (nI 0) (SS im lw tl, iv', lv) = some (some (.inl (nI 0)), (SS im lw tl, iv', lv))) (h1 : ∀ x c i iv', r = .inr (x, c, i) → Q x c i iv' → fr [11, 12, 13, 14] iv iv' → poL im lw tl lv pl iv (f x c i) Q2 (K (nI 1) (SS im lw tl, iv', lv))) : poL im lw tl lv pl iv (thn r f) Q2 (bI T K) := by
  cases r with
  | inl e =>
    obtain ⟨iv', g1, g2, g3⟩ := h
    rw [g1, bI_some, h0]
    exact ⟨iv', rfl, g2, g3⟩
  | inr x =>
    obtain ⟨iv', g1, g2, g3⟩ := h
    rw [g1, bI_some]
    exact h1 x.1 x.2.1 x.2.2 iv' rfl g2 g3
theorem frE.L {iv iv' : Nat → Nat → Int32} (h : frE iv iv') : fr [11, 12, 13, 14] iv iv' := h.1.mo (by simp)
theorem frE.m {iv iv' : Nat → Nat → Int32} (h : frE iv iv') : iv' 14 = iv 14 ∧ iv' 12 3 = iv 12 3 := ⟨h.1 14 (by decide), h.2⟩
/-- a part of the row that is open -/
theorem c_setP (d : Nat) {iv : Nat → Nat → Int32} {m k : Nat} (hm : m < 12) (hk : k < 5) (h3 : iv 12 3 = nI (m + 1)) (v : Int32) : call X xT (d + 1) 86 [.inr (.inr (some 12)), .inl (nI k), .inl v] (SS im lw tl, iv, lv) = some (none, (SS im lw tl, upd2 iv 14 (m * 5 + k) v, lv)) := by
  rw [tr86p, h3, pk_sub (by omega), pk_mul, nI_add, show m + 1 - 1 = m by omega, if_neg (nI_pos (by omega)), if_neg (nI_ge (by omega) (by omega)), if_pos (inb_nI (by omega) (by omega)), nI_clamp (by omega)]
theorem stC_14 {iv : Nat → Nat → Int32} {C : Cd} {c i : Nat} (h : stC q tk pl nt iv C c i) (k : Nat) (v : Int32) : stC q tk pl nt (upd2 iv 14 k v) C c i := by
  obtain ⟨⟨t1, t2, t3, t4, t5⟩, h1, h2, h3, h4, h5, h6, h7, h8⟩ := h
  refine ⟨⟨t1, t2, t3, fun j hj => ?_, ?_⟩, h1, h2, ?_, ?_, ?_, ?_, h7, fun k x hx => ?_⟩
  · rw [upd2_off _ _ _ _ (by decide), upd2_off _ _ _ _ (by decide)]; exact t4 j hj
  all_goals rw [upd2_off _ _ _ _ (by decide)]
  · exact t5
  · exact h3
  · exact h4
  · exact h5
  · exact h6
  · exact h8 k x hx
/-- a whole sum -/
theorem c_wsum (d : Nat) (he : tk nt = 9999) {iv : Nat → Nat → Int32} {C : Cd} {c i m k : Nat} (hm : m < 12) (hk : k < 5) (h : stC q tk pl nt iv C c i) (h3 : iv 12 3 = nI (m + 1)) (hsl : C.length + 1 ≤ i) : poL im lw tl lv pl iv (pSum q tk 8 c i) (fun e c' i' iv' => stC q tk pl nt iv' (C ++ sE (some e)) c' i' ∧ iv' 12 3 = nI (m + 1) ∧ ∀ j, iv' 14 j = if j = m * 5 + k then nI C.length else iv 14 j) (call X xT (d + 35) 88 [.inr (.inr (some 11)), .inl (nI k)] (SS im lw tl, iv, lv)) := by
  have h12 : iv 12 2 = nI C.length := h.2.2.2.2.2.2.1
  rw [tr88, tr35p, bI_some, sg88_12, h12, c_setP (d + 33) hm hk h3, bV_some, sg88_15]
  have hs := stC_14 h (m * 5 + k) (nI C.length)
  generalize hg : upd2 iv 14 (m * 5 + k) (nI C.length) = iv1 at hs ⊢
  have f1 : fr [11, 12, 13, 14] iv iv1 := hg ▸ fr_upd _ _ _ (by simp)
  have i3 : iv1 12 3 = nI (m + 1) := by rw [← hg, upd2_off _ _ _ _ (by decide)]; exact h3
  have p := cp_sumB (X := X) (im := im) (lw := lw) (tl := tl) (q := q) (pl := pl) he 8 (by omega) (d + 34) (by omega) lv iv1 C c i hs hsl
  have p : poC im lw tl lv q tk pl nt codE iv1 C (pSum q tk 8 c i) (call X xT (d + 34) 89 [.inr (.inr (some 11)), .inl (nI 0)] (SS im lw tl, iv1, lv)) := p
  cases hr : pSum q tk 8 c i with
  | inl e =>
    rw [hr] at p
    obtain ⟨iv2, a1, a2, a3, s, a4, a5⟩ := p
    obtain ⟨iv3, v, b1, b2, b3, b4⟩ := c_emit_f X im lw tl lv (d + 33) a4 a5 (nI 0) (nI 0)
    rw [a1, bI_some, sg88_20, b1, bI_some, sg88_30, if_pos (by decide)]
    exact ⟨iv3, rfl, by rw [b2]; exact a2, (f1.tr a3.L).tr b3.L⟩
  | inr x =>
    rw [hr] at p
    obtain ⟨iv2, a1, a2, a3⟩ := p
    have hl := GF_len (GF_sum he (wvF_ok q) 8) h.2.2.1 h.2.1 (show pSum q tk 8 c i = .inr (x.1, x.2.1, x.2.2) from hr)
    obtain ⟨iv3, b1, b2, b3⟩ := c_emit X im lw tl lv (d + 33) a2 (o := 0) (a := 0) (by omega) (by omega) (by rw [List.length_append]; show _ + x.1.1.length + 1 ≤ _; omega)
    rw [a1, bI_some, sg88_20, b1, bI_some, sg88_30, if_pos (by decide)]
    refine ⟨iv3, rfl, ⟨?_, ?_, ?_⟩, (f1.tr a3.L).tr b3.L⟩
    · show stC q tk pl nt iv3 (C ++ (x.1.1 ++ [(0, 0)])) x.2.1 x.2.2
      rw [← List.append_assoc]; exact b2
    · rw [b3.m.2, a3.m.2]; exact i3
    · intro j
      rw [b3.m.1, a3.m.1, ← hg]
      by_cases e : j = m * 5 + k
      · rw [if_pos e, e, upd2_self]
      · rw [if_neg e, upd2_ne _ _ _ _ (fun z => e z.2)]
theorem c_if (d : Nat) (he : tk nt = 9999) {iv : Nat → Nat → Int32} {C : Cd} {c i m : Nat} (hm : m < 12) (h : stC q tk pl nt iv C c i) (h3 : iv 12 3 = nI (m + 1)) : poL im lw tl lv pl iv (pIf q tk c i) (fun t c' i' iv' => stC q tk pl nt iv' (C ++ sT t C.length) c' i' ∧ iv' 12 3 = nI (m + 1) ∧ ∀ j, iv' 14 j = if j = m * 5 + 4 ∧ t.isSome = true then nI C.length else iv 14 j) (call X xT (d + 35) 97 [.inr (.inr (some 11))] (SS im lw tl, iv, lv)) := by
  obtain ⟨iv1, a1, a2, a3⟩ := c_takes X im lw tl lv (d + 32) h (w := 2011) (by omega)
  rw [tr97, a1, bI_some, sg97_7, b2i_ite]
  unfold pIf
  by_cases e : tk i = 2011
  · rw [if_pos (decide_eq_true e), if_pos e]
    rw [if_pos e] at a2
    have h12 : iv1 12 2 = nI C.length := a2.2.2.2.2.2.2.1
    have h31 : iv1 12 3 = nI (m + 1) := by rw [a3.2]; exact h3
    have hCi : C.length ≤ i := h.2.2.2.2.2.2.2.1
    rw [tr35p, bI_some, sg97_24, h12, c_setP (d + 33) hm (by omega) h31, bV_some, sg97_27]
    have hs := stC_14 a2 (m * 5 + 4) (nI C.length)
    generalize hg : upd2 iv1 14 (m * 5 + 4) (nI C.length) = iv2 at hs ⊢
    have f1 : fr [11, 12, 13, 14] iv iv2 := a3.L.tr (hg ▸ fr_upd _ _ _ (by simp))
    have i3 : iv2 12 3 = nI (m + 1) := by rw [← hg, upd2_off _ _ _ _ (by decide)]; exact h31
    have p := cp_testB (X := X) (im := im) (lw := lw) (tl := tl) (q := q) (pl := pl) he 8 (by omega) (d + 34) (by omega) lv iv2 C c (i + 1) hs (by omega)
    have p : poC im lw tl lv q tk pl nt codT iv2 C (pTest q tk 8 c (i + 1)) (call X xT (d + 34) 98 [.inr (.inr (some 11)), .inl (nI 0)] (SS im lw tl, iv2, lv)) := p
    cases hr : pTest q tk 8 c (i + 1) with
    | inl e =>
      rw [hr] at p
      obtain ⟨iv3, a1, a2, a3, s, a4, a5⟩ := p
      obtain ⟨iv4, v, b1, b2, b3, b4⟩ := c_emit_f X im lw tl lv (d + 33) a4 a5 (nI 0) (nI 0)
      rw [a1, bI_some, sg97_32, b1, bI_some, sg97_42, if_pos (by decide)]
      exact ⟨iv4, rfl, by rw [b2]; exact a2, (f1.tr a3.L).tr b3.L⟩
    | inr x =>
      rw [hr] at p
      obtain ⟨iv3, d1, d2, d3⟩ := p
      have hl := GF_lenT (GF_test he (wvF_ok q) 8) h.2.2.1 a2.2.1 (show pTest q tk 8 c (i + 1) = .inr (x.1, x.2.1, x.2.2) from hr) C.length
      obtain ⟨iv4, b1, b2, b3⟩ := c_emit X im lw tl lv (d + 33) d2 (o := 0) (a := 0) (by omega) (by omega) (by rw [List.length_append]; show _ + (x.1.1 C.length).length + 1 ≤ _; omega)
      rw [d1, bI_some, sg97_32, b1, bI_some, sg97_42, if_pos (by decide)]
      refine ⟨iv4, rfl, ⟨?_, ?_, ?_⟩, (f1.tr d3.L).tr b3.L⟩
      · show stC q tk pl nt iv4 (C ++ (x.1.1 C.length ++ [(0, 0)])) x.2.1 x.2.2
        rw [← List.append_assoc]; exact b2
      · rw [b3.m.2, d3.m.2]; exact i3
      · intro j
        rw [b3.m.1, d3.m.1, ← hg]
        by_cases e : j = m * 5 + 4
        · rw [if_pos ⟨e, rfl⟩, e, upd2_self]
        · rw [if_neg (fun z => e z.1), upd2_ne _ _ _ _ (fun z => e z.2), a3.m.1]
  · rw [if_neg e, if_neg (show ¬ decide (tk i = 2011) = true by rw [decide_eq_false e]; decide)]
    rw [if_neg e] at a2
    refine ⟨iv1, rfl, ⟨?_, by rw [a3.2]; exact h3, fun j => by rw [if_neg (fun z => by cases z.2), a3.m.1]⟩, a3.L⟩
    show stC q tk pl nt iv1 (C ++ []) c i
    rw [List.append_nil]; exact a2
theorem c_times (d : Nat) {iv : Nat → Nat → Int32} {C : Cd} {c i m : Nat} (hm : m < 12) (h : stC q tk pl nt iv C c i) (h3 : iv 12 3 = nI (m + 1)) (h1 : iv 14 (m * 5 + 1) = nI 1) : poL im lw tl lv pl iv (pTimes tk c i) (fun t c' i' iv' => stC q tk pl nt iv' C c' i' ∧ iv' 12 3 = nI (m + 1) ∧ ∀ j, iv' 14 j = if j = m * 5 + 1 then nI t else iv 14 j) (call X xT (d + 4) 96 [.inr (.inr (some 11))] (SS im lw tl, iv, lv)) := by
  obtain ⟨iv1, a1, a2, a3⟩ := c_takes X im lw tl lv (d + 1) h (w := 2010) (by omega)
  rw [tr96, a1, bI_some, sg96_7, b2i_ite]
  unfold pTimes
  by_cases e : tk i = 2010
  · rw [if_pos (decide_eq_true e), if_pos e]
    rw [if_pos e] at a2
    have ht := a2.t
    have h31 : iv1 12 3 = nI (m + 1) := by rw [a3.2]; exact h3
    rw [a2.2.2.2.2.1, c_numOf X im lw tl lv (d + 2) iv1 ht, bI_some, sg96_19]
    have fl : ∀ T, T = bI (call X xT (d + 3) 84 [.inr (.inr (some 11))] (SS im lw tl, iv1, lv)) (fun r2 h1 => run X (call X xT (d + 3)) false 4 xc96 35 [some (.inr (.inr (some 11))), some (.inl (nO (tk (i + 1))))] [.inl r2] h1) → ∃ iv', T = some (some (.inl (nI 0)), (SS im lw tl, iv', lv)) ∧ iv' 11 8 = nI (pl (i + 1)) ∧ fr [11, 12, 13, 14] iv iv' := by
      intro T hT
      obtain ⟨iv2, b1, b2, b3, b4⟩ := c_fails X im lw tl lv (d + 2) a2
      rw [b1, bI_some, sg96_35, if_pos (by decide)] at hT
      exact ⟨iv2, hT, b2, a3.L.tr b3.L⟩
    unfold nO at fl ⊢
    unfold numT
    by_cases n1 : 256 ≤ tk (i + 1) ∧ tk (i + 1) < 2000
    · rw [if_pos n1] at fl ⊢
      by_cases n2 : tk (i + 1) ≤ 1256
      · rw [if_pos (show 256 ≤ tk (i + 1) ∧ tk (i + 1) ≤ 1256 by omega)]
        simp only
        generalize hv : tk (i + 1) - 256 = v at fl ⊢
        by_cases n3 : 1 ≤ v ∧ v ≤ 20
        · rw [if_neg (nI_nlt (by omega) (by omega)), if_pos (nI_le n3.2 (by omega)), if_pos n3, c_setP (d + 2) hm (by omega) h31, bV_some, sg96_45]
          obtain ⟨iv2, b1, b2, b3⟩ := c_next X im lw tl lv (d + 2) (stC_14 a2 (m * 5 + 1) (nI v)) (a2.lt (show tk (i + 1) ≤ 4000 by omega) rfl)
          rw [b1, bV_some, sg96_49]
          refine ⟨iv2, rfl, ⟨b2, ?_, fun j => ?_⟩, (a3.L.tr (fr_upd _ _ _ (by simp))).tr b3.L⟩
          · rw [b3.m.2, upd2_off _ _ _ _ (by decide)]; exact h31
          · rw [b3.m.1]
            by_cases e : j = m * 5 + 1
            · rw [if_pos e, e, upd2_self]
            · rw [if_neg e, upd2_ne _ _ _ _ (fun z => e z.2), a3.m.1]
        · rw [if_neg n3]
          by_cases n4 : v < 1
          · rw [if_pos (nI_lt n4 (by omega))]; exact fl _ rfl
          · rw [if_neg (nI_nlt (by omega) (by omega)), if_neg (nI_ge (by omega) (by omega))]; exact fl _ rfl
      · rw [if_neg (show ¬ (256 ≤ tk (i + 1) ∧ tk (i + 1) ≤ 1256) by omega), if_neg (nI_nlt (by omega) (by omega)), if_neg (nI_ge (by omega) (by omega))]
        exact fl _ rfl
    · rw [if_neg n1] at fl ⊢
      rw [if_neg (show ¬ (256 ≤ tk (i + 1) ∧ tk (i + 1) ≤ 1256) by omega), if_pos (by decide)]
      exact fl _ rfl
  · rw [if_neg e, if_neg (show ¬ decide (tk i = 2010) = true by rw [decide_eq_false e]; decide)]
    rw [if_neg e] at a2
    refine ⟨iv1, rfl, ⟨a2, by rw [a3.2]; exact h3, fun j => ?_⟩, a3.L⟩
    rw [a3.m.1]
    by_cases e : j = m * 5 + 1
    · rw [if_pos e, e]; exact h1
    · rw [if_neg e]
/-- a row is opened -/
theorem c_open (d : Nat) {iv : Nat → Nat → Int32} {C : Cd} {c i m : Nat} (hm : m < 12) (h : stC q tk pl nt iv C c i) (h3 : iv 12 3 = nI m) (kind : Int32) : ∃ iv', call X xT (d + 2) 85 [.inr (.inr (some 12)), .inl kind] (SS im lw tl, iv, lv) = some (none, (SS im lw tl, iv', lv)) ∧ stC q tk pl nt iv' C c i ∧ iv' 12 3 = nI (m + 1) ∧ fr [11, 12, 13, 14] iv iv' ∧ iv' 14 (m * 5) = kind ∧ iv' 14 (m * 5 + 1) = nI 1 ∧ iv' 14 (m * 5 + 2) = -1 ∧ iv' 14 (m * 5 + 3) = -1 ∧ iv' 14 (m * 5 + 4) = -1 ∧ ∀ k, (k < m * 5 ∨ m * 5 + 5 ≤ k) → iv' 14 k = iv 14 k := by
  have hs : stC q tk pl nt (upd2 iv 12 3 (nI (m + 1))) C c i := by
    obtain ⟨⟨t1, t2, t3, t4, t5⟩, h1, h2, h3, h4, h5, h6, h7, h8⟩ := h
    refine ⟨⟨t1, t2, t3, fun j hj => ?_, ?_⟩, h1, h2, ?_, ?_, ?_, ?_, h7, fun k x hx => ?_⟩
    · rw [upd2_off _ _ _ _ (by decide), upd2_off _ _ _ _ (by decide)]; exact t4 j hj
    · exact ⟨by rw [upd2_off _ _ _ _ (by decide)]; exact t5.1, by rw [upd2_off _ _ _ _ (by decide)]; exact t5.2⟩
    · rw [upd2_off _ _ _ _ (by decide)]; exact h3
    · rw [upd2_off _ _ _ _ (by decide)]; exact h4
    · rw [upd2_off _ _ _ _ (by decide)]; exact h5
    · rw [upd2_ne _ _ _ _ (by decide)]; exact h6
    · rw [upd2_off _ _ _ _ (by decide)]; exact h8 k x hx
  have g3 : (upd2 iv 12 3 (nI (m + 1))) 12 3 = nI (m + 1) := upd2_self _ _ _ _
  have g14 : (upd2 iv 12 3 (nI (m + 1))) 14 = iv 14 := upd2_off _ _ _ _ (by decide)
  have gf : fr [11, 12, 13, 14] iv (upd2 iv 12 3 (nI (m + 1))) := fr_upd _ _ _ (by simp)
  rw [tr85p, h3, nI_add]
  generalize upd2 iv 12 3 (nI (m + 1)) = iv1 at hs g3 g14 gf ⊢
  have g : ∀ (iv : Nat → Nat → Int32) (k : Nat) (v : Int32), iv 12 3 = nI (m + 1) → (upd2 iv 14 (m * 5 + k) v) 12 3 = nI (m + 1) := fun iv k v e => by rw [upd2_off _ _ _ _ (by decide)]; exact e
  rw [c_setP d hm (by omega) g3, bV_some, sg85_16p, c_setP d hm (by omega) (g _ _ _ g3), bV_some, sg85_22p, c_setP d hm (by omega) (g _ _ _ (g _ _ _ g3)), bV_some, sg85_28p, c_setP d hm (by omega) (g _ _ _ (g _ _ _ (g _ _ _ g3))), bV_some, sg85_34p, c_setP d hm (by omega) (g _ _ _ (g _ _ _ (g _ _ _ (g _ _ _ g3)))), bV_some, sg85_40p]
  refine ⟨_, rfl, stC_14 (stC_14 (stC_14 (stC_14 (stC_14 hs _ _) _ _) _ _) _ _) _ _, g _ _ _ (g _ _ _ (g _ _ _ (g _ _ _ (g _ _ _ g3)))), ?_, ?_, ?_, ?_, ?_, ?_, fun k hk => ?_⟩
  · exact gf.tr ((((fr_upd _ _ _ (by simp)).tr (fr_upd _ _ _ (by simp))).tr ((fr_upd _ _ _ (by simp)).tr (fr_upd _ _ _ (by simp)))).tr (fr_upd _ _ _ (by simp)))
  · rw [upd2_ne _ _ _ _ (by omega), upd2_ne _ _ _ _ (by omega), upd2_ne _ _ _ _ (by omega), upd2_ne _ _ _ _ (by omega)]; exact upd2_self _ _ _ _
  · rw [upd2_ne _ _ _ _ (by omega), upd2_ne _ _ _ _ (by omega), upd2_ne _ _ _ _ (by omega), upd2_self]
  · rw [upd2_ne _ _ _ _ (by omega), upd2_ne _ _ _ _ (by omega), upd2_self]
  · rw [upd2_ne _ _ _ _ (by omega), upd2_self]
  · rw [upd2_self]
  · rw [upd2_ne _ _ _ _ (by omega), upd2_ne _ _ _ _ (by omega), upd2_ne _ _ _ _ (by omega), upd2_ne _ _ _ _ (by omega), upd2_ne _ _ _ _ (by omega), g14]
end tx
