/-! the reference reads a law -/
def eM (e : Option Ex) : Cd := match e with
  | none => []
  | some e => e.2.1
def tM (t : Option Te) (n : Nat) : Cd := match t with
  | none => []
  | some t => t.2.1 n
def gcM (g : GC) (n : Nat) : Cd := eM g.2.2.1 ++ (eM g.2.2.2.1 ++ tM g.2.2.2.2 (n + (eM g.2.2.1).length + (eM g.2.2.2.1).length))
def cMA (gs : List GC) : Cd := gs.foldl (fun C g => C ++ gcM g C.length) []
theorem cMA_snoc (gs : List GC) (g : GC) : cMA (gs ++ [g]) = cMA gs ++ gcM g (cMA gs).length := by unfold cMA; rw [List.foldl_append]; rfl
def hdV (cs : List Nat) (t : Nat) : Nat → Int32
  | 0 => -1
  | k + 1 => if t = cs.getD k 0 then nI k else hdV cs t k
def hL : List Nat := [2000, 2001, 2002, 2003]
def hOr : List Nat := [2004, 2005, 2006, 2007]
theorem hL_k : ∀ j, j < 4 → hT (hL.getD j 0) = hK.getD j 0 ∧ ((2000 ≤ hL.getD j 0 ∧ hL.getD j 0 ≤ 2014) ∨ (3000 ≤ hL.getD j 0 ∧ hL.getD j 0 ≤ 3012)) := by decide +kernel
theorem hOr_k : ∀ j, j < 4 → hT (hOr.getD j 0) = aK.getD j 0 ∧ ((2000 ≤ hOr.getD j 0 ∧ hOr.getD j 0 ≤ 2014) ∨ (3000 ≤ hOr.getD j 0 ∧ hOr.getD j 0 ≤ 3012)) := by decide +kernel
theorem hdV_l (t : Nat) : hdV hL t 4 = if 2000 ≤ t ∧ t ≤ 2003 then nI (t - 2000) else -1 := by
  show (if t = 2003 then nI 3 else if t = 2002 then nI 2 else if t = 2001 then nI 1 else if t = 2000 then nI 0 else -1) = _
  by_cases h : 2000 ≤ t ∧ t ≤ 2003
  · rw [if_pos h]
    have : t = 2000 ∨ t = 2001 ∨ t = 2002 ∨ t = 2003 := by omega
    rcases this with rfl | rfl | rfl | rfl <;> rfl
  · rw [if_neg h, if_neg (by omega), if_neg (by omega), if_neg (by omega), if_neg (by omega)]
theorem hdV_o (t : Nat) : hdV hOr t 4 = if 2004 ≤ t ∧ t ≤ 2007 then nI (t - 2004) else -1 := by
  show (if t = 2007 then nI 3 else if t = 2006 then nI 2 else if t = 2005 then nI 1 else if t = 2004 then nI 0 else -1) = _
  by_cases h : 2004 ≤ t ∧ t ≤ 2007
  · rw [if_pos h]
    have : t = 2004 ∨ t = 2005 ∨ t = 2006 ∨ t = 2007 := by omega
    rcases this with rfl | rfl | rfl | rfl <;> rfl
  · rw [if_neg h, if_neg (by omega), if_neg (by omega), if_neg (by omega), if_neg (by omega)]
def lrw (g : GC) (n k : Nat) : Int32 := if k = 0 then nI g.1 else if k = 3 then nI n else if k = 4 then nI (n + (eM g.2.2.1).length) else if k = 5 then nI (n + (eM g.2.2.1).length) else nI (n + (eM g.2.2.1).length + (tM g.2.2.2.2 (n + (eM g.2.2.1).length)).length)
def rowsL (iv : Nat → Nat → Int32) (gs : List GC) : Prop := ∀ j g, gs[j]? = some g → ∀ k, (k = 0 ∨ (3 ≤ k ∧ k ≤ 6)) → iv 56 (8 * j + k) = lrw g (cMA (gs.take j)).length k
theorem rowsL_snoc {iv iv' : Nat → Nat → Int32} {gs : List GC} {g : GC} (h : rowsL iv gs) (h1 : ∀ k, k < 8 * gs.length → iv' 56 k = iv 56 k) (h2 : ∀ k, (k = 0 ∨ (3 ≤ k ∧ k ≤ 6)) → iv' 56 (8 * gs.length + k) = lrw g (cMA gs).length k) : rowsL iv' (gs ++ [g]) := by
  intro j x hx k hk
  by_cases e : j < gs.length
  · rw [List.getElem?_append_left e] at hx
    rw [h1 _ (by omega), List.take_append_of_le_length (by omega)]
    exact h j x hx k hk
  · have hj : j < (gs ++ [g]).length := (List.getElem?_eq_some_iff.mp hx).1
    rw [List.length_append, List.length_singleton] at hj
    have : j = gs.length := by omega
    subst this
    rw [List.getElem?_append_right (by omega), Nat.sub_self] at hx
    injection hx with hx
    rw [List.take_append_of_le_length (by omega), List.take_length, ← hx]
    exact h2 k hk
def frY (iv iv' : Nat → Nat → Int32) : Prop := ∀ a k, ¬ (a = 56 ∨ a = 57 ∨ a = 58 ∨ a = 59 ∨ a = 60 ∨ a = 77 ∨ (a = 46 ∧ (k = 14 ∨ k = 15 ∨ k = 16 ∨ k = 18 ∨ k = 19 ∨ k = 21 ∨ k = 23 ∨ k = 26 ∨ k = 29 ∨ k = 30))) → iv' a k = iv a k
theorem frY.rf {iv : Nat → Nat → Int32} : frY iv iv := fun _ _ _ => rfl
theorem frY.tr {a b c : Nat → Nat → Int32} (h : frY a b) (h2 : frY b c) : frY a c := fun x k hk => (h2 x k hk).trans (h x k hk)
theorem frX.Y {iv iv' : Nat → Nat → Int32} (h : frX iv iv') : frY iv iv' := fun a k hk => h a k (by omega)
theorem frY_56 (iv : Nat → Nat → Int32) (k : Nat) (v : Int32) : frY iv (upd2 iv 56 k v) := fun a j hj => upd2_ne _ _ _ _ (by omega)
theorem frY_77 (iv : Nat → Nat → Int32) (k : Nat) (v : Int32) : frY iv (upd2 iv 77 k v) := fun a j hj => upd2_ne _ _ _ _ (by omega)
theorem frY_21 (iv : Nat → Nat → Int32) (v : Int32) : frY iv (upd2 iv 46 21 v) := fun a j hj => upd2_ne _ _ _ _ (by omega)
section ll
variable {X : XE} {im lw : List (Option Nat)} {tl : List XC} {q : Bool} {b : Nat → Nat} {n : Nat}
/-- it is not touched by what lies elsewhere -/
theorem stEx_fr {iv iv' : Nat → Nat → Int32} {lv : Nat → Nat → Int64} {i : Nat} {C : Cd} {c : Nat} (h : stEx q b n iv lv i C c) (hf : ∀ a k, (a = 55 ∨ a = 57 ∨ a = 58 ∨ (a = 46 ∧ k ≠ 21)) → iv' a k = iv a k) : stEx q b n iv' lv i C c := by
  obtain ⟨h1, ⟨s1, s2, s3⟩, s4, s5, s6, s7, s8, s9, s10⟩ := h
  refine ⟨lexM_P h1 (fun a k hk => hf a k (by omega)), ⟨by rw [hf 46 19 (by omega)]; exact s1, by rw [hf 46 18 (by omega)]; exact s2, by rw [hf 46 20 (by omega)]; exact s3⟩, fun k x hx => ?_, by rw [hf 46 23 (by omega)]; exact s5, by rw [hf 46 26 (by omega)]; exact s6, s7, s8, s9, s10⟩
  rw [hf 57 k (by omega), hf 58 k (by omega)]; exact s4 k x hx
theorem stEx_stM {iv : Nat → Nat → Int32} {lv : Nat → Nat → Int64} {i : Nat} {C : Cd} {c : Nat} (h : stEx q b n iv lv i C c) : pInv (ntF b n) i C [] 0 c := ⟨h.2.2.2.2.2.2.1, h.2.2.2.2.2.2.2.1, Nat.zero_le _, fun y hy => (by cases hy), by omega, h.2.2.2.2.2.2.2.2⟩
theorem m_nxE (d : Nat) {iv : Nat → Nat → Int32} {lv : Nat → Nat → Int64} {i : Nat} {C : Cd} {c : Nat} (h : stEx q b n iv lv i C c) (ht : tkF b n i ≠ 9999) : ∃ iv' lv', call X xT (d + 2) 238 [.inr (.inr (some 46))] (SS im lw tl, iv, lv) = some (none, (SS im lw tl, iv', lv')) ∧ stEx q b n iv' lv' (i + 1) C c ∧ frX iv iv' ∧ frO lv lv' := by
  obtain ⟨h1, ⟨s1, s2, s3⟩, s4, s5, s6, s7, s8, s9, s10⟩ := h
  have hi : i < ntF b n := by
    rcases Nat.lt_or_ge i (ntF b n) with z | z
    · exact z
    · exact absurd (by rw [show i = ntF b n by omega]; exact tkF_end b n) ht
  obtain ⟨iv', lv', a1, a2, a3, a4⟩ := m_next X im lw tl d h1 ht
  refine ⟨iv', lv', a1, ⟨a2, ⟨by rw [a3 46 19 (by omega)]; exact s1, by rw [a3 46 18 (by omega)]; exact s2, by rw [a3 46 20 (by omega)]; exact s3⟩, fun k x hx => ?_, by rw [a3 46 23 (by omega)]; exact s5, by rw [a3 46 26 (by omega)]; exact s6, a4.c s7, by omega, by omega, s10⟩, a3.X, a4⟩
  rw [a3 57 k (by omega), a3 58 k (by omega)]; exact s4 k x hx
theorem m_mustE1 (d : Nat) {iv : Nat → Nat → Int32} {lv : Nat → Nat → Int64} {i : Nat} {C : Cd} {c : Nat} (h : stEx q b n iv lv i C c) (ht : tkF b n i ≠ 9999) : ∃ iv' lv', call X xT (d + 3) 243 [.inr (.inr (some 46)), .inl (nI 1)] (SS im lw tl, iv, lv) = some (none, (SS im lw tl, iv', lv')) ∧ stEx q b n iv' lv' (i + 1) C c ∧ frX iv iv' ∧ frO lv lv' := by
  obtain ⟨iv', lv', a1, a2, a3, a4⟩ := m_nxE (X := X) (im := im) (lw := lw) (tl := tl) d h ht
  rw [tr243, h.2.1.1, if_pos n0z, if_neg n1z, if_pos n0z, a1, bV_some, sg243_35]
  exact ⟨iv', lv', rfl, a2, a3, a4⟩
/-- failed: told, and where -/
def badM (b : Nat → Nat) (n : Nat) (iv : Nat → Nat → Int32) (e : Nat) : Prop := iv 46 19 = nI 1 ∧ iv 46 18 = nI (plF b n e)
def moC (im lw : List (Option Nat)) (tl : List XC) (b : Nat → Nat) (n : Nat) {α : Type} (iv : Nat → Nat → Int32) (lv : Nat → Nat → Int64) (r : Rd α) (Q : α → Nat → Nat → (Nat → Nat → Int32) → (Nat → Nat → Int64) → Prop) (T : Option XR) : Prop := match r with
  | .inl e => ∃ iv' lv', T = some (none, (SS im lw tl, iv', lv')) ∧ badM b n iv' e ∧ frY iv iv' ∧ frO lv lv'
  | .inr x => ∃ iv' lv', T = some (none, (SS im lw tl, iv', lv')) ∧ Q x.1 x.2.1 x.2.2 iv' lv' ∧ frY iv iv' ∧ frO lv lv'
def QM (q : Bool) (b : Nat → Nat) (n : Nat) (gs : List GC) (g : GC) (c i : Nat) (iv : Nat → Nat → Int32) (lv : Nat → Nat → Int64) : Prop := stEx q b n iv lv i (cMA (gs ++ [g])) c ∧ iv 46 21 = nI (gs.length + 1) ∧ rowsL iv (gs ++ [g])
/-- which head it is -/
theorem m_head (d : Nat) {iv : Nat → Nat → Int32} {lv : Nat → Nat → Int64} {i : Nat} (h : lexM b n i iv lv) (hc : constM lv) : ∃ K, call X xT (d + 4) 241 [.inr (.inr (some 46))] (SS im lw tl, iv, lv) = run X (call X xT (d + 3)) false 0 xc241 4 [some (.inr (.inr (some 46))), some (.inl (hdV hL (tkF b n i) 4)), some (.inl (nI 4)), none] [] (SS im lw tl, iv, lv) ∧ K = 0 := by
  refine ⟨0, ?_, rfl⟩
  have loop : ∀ (k j : Nat), j + k = 4 → run X (call X xT (d + 3)) false 0 xc241 4 [some (.inr (.inr (some 46))), some (.inl (hdV hL (tkF b n i) j)), some (.inl (nI j)), none] [] (SS im lw tl, iv, lv) = run X (call X xT (d + 3)) false 0 xc241 4 [some (.inr (.inr (some 46))), some (.inl (hdV hL (tkF b n i) 4)), some (.inl (nI 4)), none] [] (SS im lw tl, iv, lv) := by
    intro k
    induction k with
    | zero => intro j hj; rw [show j = 4 by omega]
    | succ k ih =>
      intro j hj
      obtain ⟨k1, k2⟩ := hL_k j (by omega)
      rw [sg241_4, if_neg (nI_ge (by omega) (by omega)), if_pos (inb_nI (by omega) (by omega)), nI_clamp (by omega), hc.2.2.1 j (by omega), ← k1, m_isW X im lw tl (d + 2) h k2, bI_some, sg241_19, b2i_ite, nI_add]
      have nx := ih (j + 1) (by omega)
      have e : hdV hL (tkF b n i) (j + 1) = if tkF b n i = hL.getD j 0 then nI j else hdV hL (tkF b n i) j := rfl
      rw [e] at nx
      by_cases q : tkF b n i = hL.getD j 0
      · rw [if_pos (decide_eq_true q)]; rw [if_pos q] at nx; exact nx
      · rw [if_neg (show ¬ decide (tkF b n i = hL.getD j 0) = true by rw [decide_eq_false q]; decide)]; rw [if_neg q] at nx; exact nx
  rw [tr241]
  exact loop 4 0 (by omega)
theorem bad0 {iv : Nat → Nat → Int32} {lv : Nat → Nat → Int64} {i : Nat} {C : Cd} {c : Nat} (h : stEx q b n iv lv i C c) : badM b n (upd2 (upd2 iv 46 19 (nI 1)) 46 18 (iv 46 14)) i ∧ frY iv (upd2 (upd2 iv 46 19 (nI 1)) 46 18 (iv 46 14)) := ⟨⟨by rw [upd2_ne _ _ _ _ (by decide), upd2_self], by rw [upd2_self]; exact h.1.2.1⟩, ((frX_u _ _ (by omega)).tr (frX_u _ _ (by omega))).Y⟩
/-- the test, where there is one, and the row's end -/
theorem m_lawT (d : Nat) {iv : Nat → Nat → Int32} {lv : Nat → Nat → Int64} {i : Nat} {gs : List GC} {c kind : Nat} {e : Option Ex} (hm : gs.length < 12) (h : stEx q b n iv lv i (cMA gs ++ eM e) c) (h21 : iv 46 21 = nI (gs.length + 1)) (hr : rowsL iv gs) (hk : iv 56 (8 * gs.length) = nI kind) (h3 : iv 56 (8 * gs.length + 3) = nI (cMA gs).length) (v1 v3 : Int32) : moC im lw tl b n iv lv (thn (pIf q (tkF b n) c i) (fun t c1 i1 => .inr ((kind, 1, e, none, t), c1, i1))) (QM q b n gs) (run X (call X xT (d + 8)) false 0 xc241 135 [some (.inr (.inr (some 46))), some (.inl v1), some (.inl (nI (8 * gs.length))), some (.inl v3)] [] (SS im lw tl, iv, lv)) := by
  have hh := h
  obtain ⟨h1, ⟨s1, s2, s3⟩, s4, s5, s6, s7, s8, s9, s10⟩ := h
  rw [sg241_135, nI_add, nI_add, if_pos (inb_nI (by omega) (by omega)), if_pos (inb_nI (by omega) (by omega)), s1, if_pos n0z, nI_clamp (by omega), nI_clamp (by omega), s5]
  generalize hg : upd2 (upd2 iv 56 (8 * gs.length + 4) (nI (cMA gs ++ eM e).length)) 56 (8 * gs.length + 5) (nI (cMA gs ++ eM e).length) = iv1
  have z1 : ∀ a k, a ≠ 56 → iv1 a k = iv a k := fun a k ha => by rw [← hg, upd2_ne _ _ _ _ (by omega), upd2_ne _ _ _ _ (by omega)]
  have z56 : ∀ k, iv1 56 k = if k = 8 * gs.length + 5 ∨ k = 8 * gs.length + 4 then nI (cMA gs ++ eM e).length else iv 56 k := fun k => by
    rw [← hg]
    by_cases k5 : k = 8 * gs.length + 5
    · rw [if_pos (Or.inl k5), k5, upd2_self]
    · rw [upd2_ne _ _ _ _ (fun w => k5 w.2)]
      by_cases k4 : k = 8 * gs.length + 4
      · rw [if_pos (Or.inr k4), k4, upd2_self]
      · rw [if_neg (by omega), upd2_ne _ _ _ _ (fun w => k4 w.2)]
  have f1 : frY iv iv1 := fun a k hk => z1 a k (by omega)
  have st1 : stEx q b n iv1 lv i (cMA gs ++ eM e) c := stEx_fr hh (fun a k hk => z1 a k (by omega))
  have w := m_isW X im lw tl (d + 7) st1.1 (t := 2011) (Or.inl (by omega))
  rw [hT_c.2.2.2.1] at w
  rw [w, bI_some, sg241_173, b2i_ite]
  -- the end
  have fin : ∀ (iv2 : Nat → Nat → Int32) (lv2 : Nat → Nat → Int64) (t : Option Te) (c1 i1 : Nat), stEx q b n iv2 lv2 i1 (cMA gs ++ eM e ++ tM t (cMA gs ++ eM e).length) c1 → frX iv1 iv2 → frO lv lv2 → ∃ iv' lv', run X (call X xT (d + 8)) false 0 xc241 185 [some (.inr (.inr (some 46))), some (.inl v1), some (.inl (nI (8 * gs.length))), some (.inl v3)] [] (SS im lw tl, iv2, lv2) = some (none, (SS im lw tl, iv', lv')) ∧ QM q b n gs (kind, 1, e, none, t) c1 i1 iv' lv' ∧ frY iv iv' ∧ frO lv lv' := by
    intro iv2 lv2 t c1 i1 hs hf ho
    have h23 : iv2 46 23 = nI (cMA gs ++ eM e ++ tM t (cMA gs ++ eM e).length).length := hs.2.2.2.1
    rw [sg241_185, nI_add, if_pos (inb_nI (by omega) (by omega)), nI_clamp (by omega), h23]
    have y56 : ∀ k, (upd2 iv2 56 (8 * gs.length + 6) (nI (cMA gs ++ eM e ++ tM t (cMA gs ++ eM e).length).length)) 56 k = if k = 8 * gs.length + 6 then nI (cMA gs ++ eM e ++ tM t (cMA gs ++ eM e).length).length else iv1 56 k := fun k => by
      by_cases k6 : k = 8 * gs.length + 6
      · rw [if_pos k6, k6, upd2_self]
      · rw [if_neg k6, upd2_ne _ _ _ _ (fun w => k6 w.2), hf 56 k (by omega)]
    refine ⟨_, lv2, rfl, ⟨?_, ?_, rowsL_snoc hr (fun k hk => ?_) (fun k hkk => ?_)⟩, (f1.tr hf.Y).tr (frY_56 _ _ _), ho⟩
    · rw [cMA_snoc]
      show stEx q b n _ lv2 i1 (cMA gs ++ (eM e ++ ([] ++ tM t ((cMA gs).length + (eM e).length + 0)))) c1
      rw [List.nil_append, ← List.append_assoc, Nat.add_zero, ← List.length_append]
      exact stEx_fr hs (fun a k hk => upd2_ne _ _ _ _ (by omega))
    · rw [upd2_off _ _ _ _ (by decide), hf 46 21 (by omega), z1 46 21 (by decide)]; exact h21
    · rw [y56, if_neg (by omega), z56, if_neg (by omega)]
    · rw [y56, z56]
      have : k = 0 ∨ k = 3 ∨ k = 4 ∨ k = 5 ∨ k = 6 := by omega
      rcases this with rfl | rfl | rfl | rfl | rfl
      · rw [if_neg (by omega), if_neg (by omega)]; exact hk
      · rw [if_neg (by omega), if_neg (by omega)]; exact h3
      · rw [if_neg (by omega), if_pos (by omega), List.length_append]; rfl
      · rw [if_neg (by omega), if_pos (by omega), List.length_append]; rfl
      · rw [if_pos rfl, List.length_append, List.length_append]; rfl
  unfold pIf
  by_cases et : tkF b n i = 2011
  · rw [if_pos (decide_eq_true et), if_pos et]
    obtain ⟨iv2, lv2, a1, a2, a3, a4⟩ := m_nxE (X := X) (im := im) (lw := lw) (tl := tl) (d + 6) st1 (by omega)
    have p := m_exprT (X := X) (im := im) (lw := lw) (tl := tl) (d + 1) a2
    rw [a1, bV_some, sg241_180]
    cases hp : pTest q (tkF b n) 8 c (i + 1) with
    | inl e2 =>
      rw [hp] at p
      obtain ⟨iv3, lv3, p1, p2, p3, p4, p5, p6⟩ := p
      rw [p1, bV_some, sg241_185, nI_add, if_pos (inb_nI (by omega) (by omega)), nI_clamp (by omega)]
      exact ⟨_, lv3, rfl, ⟨by rw [upd2_off _ _ _ _ (by decide)]; exact p2, by rw [upd2_off _ _ _ _ (by decide)]; exact p3⟩, ((f1.tr a3.Y).tr p5.Y).tr (frY_56 _ _ _), a4.tr p6⟩
    | inr x =>
      rw [hp] at p
      obtain ⟨iv3, lv3, p1, p2, p3, p4⟩ := p
      rw [p1, bV_some]
      exact fin iv3 lv3 (some x.1) x.2.1 x.2.2 p2 (a3.tr p3) (a4.tr p4)
  · rw [if_neg (show ¬ decide (tkF b n i = 2011) = true by rw [decide_eq_false et]; decide), if_neg et]
    refine fin iv1 lv none c i ?_ frX.rf frO.rf
    show stEx q b n iv1 lv i (cMA gs ++ eM e ++ []) c
    rw [List.append_nil]; exact st1
theorem m_law1 (d : Nat) {iv : Nat → Nat → Int32} {lv : Nat → Nat → Int64} {i : Nat} {gs : List GC} {c : Nat} (hm : gs.length ≤ 12) (h : stEx q b n iv lv i (cMA gs) c) (h21 : iv 46 21 = nI gs.length) (hr : rowsL iv gs) : moC im lw tl b n iv lv (if gs.length < 12 then pLaw q (tkF b n) c i else .inl i) (QM q b n gs) (call X xT (d + 9) 241 [.inr (.inr (some 46))] (SS im lw tl, iv, lv)) := by
  obtain ⟨K, e0, -⟩ := m_head (X := X) (im := im) (lw := lw) (tl := tl) (d + 5) h.1 h.2.2.2.2.2.1
  rw [e0, sg241_4, if_pos (nI_le (by omega) (by omega)), hdV_l]
  have fail : ∀ v1 v2 : Int32, ∀ T, T = bV (call X xT (d + 8) 243 [.inr (.inr (some 46)), .inl (nI 0)] (SS im lw tl, iv, lv)) (fun h1 => run X (call X xT (d + 8)) false 0 xc241 57 [some (.inr (.inr (some 46))), some (.inl v1), some (.inl v2), none] [] h1) → ∃ iv' lv', T = some (none, (SS im lw tl, iv', lv')) ∧ badM b n iv' i ∧ frY iv iv' ∧ frO lv lv' := by
    intro v1 v2 T hT
    obtain ⟨b1, b2⟩ := bad0 h
    rw [m_must0 (X := X) (im := im) (lw := lw) (tl := tl) (d + 7) lv h.2.1.1, bV_some, sg241_57, b1.1, if_neg n1z] at hT
    exact ⟨_, lv, hT, b1, b2, frO.rf⟩
  unfold pLaw
  by_cases hk : 2000 ≤ tkF b n i ∧ tkF b n i ≤ 2003
  · rw [if_pos hk, if_pos hk, if_neg (nI_m1 (by omega)), h21]
    by_cases h12 : gs.length < 12
    · rw [if_pos h12, if_neg (nI_ge h12 (by omega))]
      obtain ⟨iv1, lv1, a1, a2, a3, a4⟩ := m_mustE1 (X := X) (im := im) (lw := lw) (tl := tl) (d + 5) h (by omega)
      have h211 : iv1 46 21 = nI gs.length := by rw [a3 46 21 (by omega)]; exact h21
      rw [a1, bV_some, sg241_57, a2.2.1.1, if_pos n0z, h211, pk_mul]
      -- eight cells cleared
      have clr : ∀ (k j : Nat) (iv : Nat → Nat → Int32), j + k = 8 → ∃ iv', run X (call X xT (d + 8)) false 0 xc241 75 [some (.inr (.inr (some 46))), some (.inl (nI (tkF b n i - 2000))), some (.inl (nI (8 * gs.length))), some (.inl (nI j))] [] (SS im lw tl, iv, lv1) = run X (call X xT (d + 8)) false 0 xc241 75 [some (.inr (.inr (some 46))), some (.inl (nI (tkF b n i - 2000))), some (.inl (nI (8 * gs.length))), some (.inl (nI 8))] [] (SS im lw tl, iv', lv1) ∧ fr [56] iv iv' ∧ ∀ z, z < 8 * gs.length → iv' 56 z = iv 56 z := by
        intro k
        induction k with
        | zero => intro j iv hj; exact ⟨iv, by rw [show j = 8 by omega], fun _ _ => rfl, fun _ _ => rfl⟩
        | succ k ih =>
          intro j iv hj
          obtain ⟨iv', r1, r2, r3⟩ := ih (j + 1) (upd2 iv 56 (8 * gs.length + j) (nI 0)) (by omega)
          refine ⟨iv', ?_, (fr_upd _ _ _ (by simp)).tr r2, fun z hz => by rw [r3 z hz, upd2_ne _ _ _ _ (by omega)]⟩
          rw [sg241_75, if_neg (nI_ge (by omega) (by omega)), nI_add, nI_add, if_pos (inb_nI (by omega) (by omega)), nI_clamp (by omega)]
          exact r1
      obtain ⟨iv2, b1, b2, b3⟩ := clr 8 0 iv1 (by omega)
      have b1 : run X (call X xT (d + 8)) false 0 xc241 75 [some (.inr (.inr (some 46))), some (.inl (nI (tkF b n i - 2000))), some (.inl (nI (8 * gs.length))), some (.inl (nI 0))] [] (SS im lw tl, iv1, lv1) = _ := b1
      have h212 : iv2 46 21 = nI gs.length := by rw [b2 46 (by decide)]; exact h211
      have h232 : iv2 46 23 = nI (cMA gs).length := by rw [b2 46 (by decide)]; exact a2.2.2.2.1
      rw [b1, sg241_75, if_pos (nI_le (by omega) (by omega)), if_pos (inb_nI (by omega) (by omega)), nI_add, if_pos (inb_nI (by omega) (by omega)), nI_clamp (by omega), nI_clamp (by omega), h212, h232, nI_add]
      generalize hg : upd2 (upd2 (upd2 iv2 56 (8 * gs.length) (nI (tkF b n i - 2000))) 46 21 (nI (gs.length + 1))) 56 (8 * gs.length + 3) (nI (cMA gs).length) = iv3
      have z3 : ∀ a k, a ≠ 56 → (a = 46 → k ≠ 21) → iv3 a k = iv1 a k := fun a k ha hk => by
        rw [← hg, upd2_ne _ _ _ _ (by omega), upd2_ne _ _ _ _ (by omega), upd2_ne _ _ _ _ (by omega), b2 a (by simp; exact ha)]
      have c21 : iv3 46 21 = nI (gs.length + 1) := by rw [← hg, upd2_off _ _ _ _ (by decide), upd2_self]
      have c0 : iv3 56 (8 * gs.length) = nI (tkF b n i - 2000) := by rw [← hg, upd2_ne _ _ _ _ (by omega), upd2_off _ _ _ _ (by decide), upd2_self]
      have c3 : iv3 56 (8 * gs.length + 3) = nI (cMA gs).length := by rw [← hg, upd2_self]
      have cl : ∀ z, z < 8 * gs.length → iv3 56 z = iv 56 z := fun z hz => by
        rw [← hg, upd2_ne _ _ _ _ (by omega), upd2_off _ _ _ _ (by decide), upd2_ne _ _ _ _ (by omega), b3 z hz, a3 56 z (by omega)]
      have st3 : stEx q b n iv3 lv1 (i + 1) (cMA gs) c := stEx_fr a2 (fun a k hk => z3 a k (by omega) (by omega))
      have f3 : frY iv iv3 := a3.Y.tr (fun a k hk => z3 a k (by omega) (by omega))
      have hr3 : rowsL iv3 gs := fun j g hj k hk => by
        have : j < gs.length := (List.getElem?_eq_some_iff.mp hj).1
        rw [cl _ (by omega)]; exact hr j g hj k hk
      have trm : ∀ {r : Rd GC} {T : Option XR}, moC im lw tl b n iv3 lv1 r (QM q b n gs) T → moC im lw tl b n iv lv r (QM q b n gs) T := by
        intro r T hT
        cases r with
        | inl e => obtain ⟨x, y, t1, t2, t3, t4⟩ := hT; exact ⟨x, y, t1, t2, f3.tr t3, a4.tr t4⟩
        | inr e => obtain ⟨x, y, t1, t2, t3, t4⟩ := hT; exact ⟨x, y, t1, t2, f3.tr t3, a4.tr t4⟩
      refine trm ?_
      by_cases e3 : tkF b n i = 2003
      · rw [if_pos (show nI (tkF b n i - 2000) = nI 3 by rw [e3]), if_pos e3]
        refine m_lawT d (e := none) (kind := 3) h12 ?_ c21 hr3 (by rw [c0, e3]) c3 _ _
        show stEx q b n iv3 lv1 (i + 1) (cMA gs ++ []) c
        rw [List.append_nil]; exact st3
      · have ne : ¬ nI (tkF b n i - 2000) = nI 3 := fun z => by have := congrArg Int32.toNatClampNeg z; rw [nI_clamp (by omega), nI_clamp (by omega)] at this; omega
        rw [if_neg ne, if_neg e3]
        have p := m_exprS (X := X) (im := im) (lw := lw) (tl := tl) (d + 1) st3
        cases hp : pSum q (tkF b n) 8 c (i + 1) with
        | inl e2 =>
          rw [hp] at p
          obtain ⟨iv4, lv4, p1, p2, p3, ⟨s, p4, p5⟩, p6, p7⟩ := p
          rw [p1, bV_some, sg241_135, nI_add, nI_add, if_pos (inb_nI (by omega) (by omega)), if_pos (inb_nI (by omega) (by omega)), p2, if_neg n1z, sg241_185, nI_add, if_pos (inb_nI (by omega) (by omega))]
          exact ⟨_, lv4, rfl, ⟨by rw [upd2_off _ _ _ _ (by decide), upd2_off _ _ _ _ (by decide), upd2_off _ _ _ _ (by decide)]; exact p2, by rw [upd2_off _ _ _ _ (by decide), upd2_off _ _ _ _ (by decide), upd2_off _ _ _ _ (by decide)]; exact p3⟩, p6.Y.tr (((frY_56 _ _ _).tr (frY_56 _ _ _)).tr (frY_56 _ _ _)), p7⟩
        | inr x =>
          rw [hp] at p
          obtain ⟨iv4, lv4, p1, p2, p3, p4⟩ := p
          rw [p1, bV_some]
          have tr2 : ∀ {r : Rd GC} {T : Option XR}, moC im lw tl b n iv4 lv4 r (QM q b n gs) T → moC im lw tl b n iv3 lv1 r (QM q b n gs) T := by
            intro r T hT
            cases r with
            | inl e => obtain ⟨x, y, t1, t2, t3, t4⟩ := hT; exact ⟨x, y, t1, t2, p3.Y.tr t3, p4.tr t4⟩
            | inr e => obtain ⟨x, y, t1, t2, t3, t4⟩ := hT; exact ⟨x, y, t1, t2, p3.Y.tr t3, p4.tr t4⟩
          exact tr2 (m_lawT d (e := some x.1) (kind := tkF b n i - 2000) h12 p2 (by rw [p3 46 21 (by omega)]; exact c21) (fun j g hj k hk => by rw [p3 56 _ (by omega)]; exact hr3 j g hj k hk) (by rw [p3 56 _ (by omega)]; exact c0) (by rw [p3 56 _ (by omega)]; exact c3) _ _)
    · rw [if_neg h12, if_pos (nI_le (by omega) (by omega))]
      exact fail _ _ _ rfl
  · rw [if_neg hk, if_neg hk, if_pos rfl]
    have : (if gs.length < 12 then (.inl i : Rd GC) else .inl i) = .inl i := by split <;> rfl
    rw [this]
    exact fail _ _ _ rfl
end ll
