/-! the class's parser: sums -/
def poC (im lw : List (Option Nat)) (tl : List XC) (lv : Nat → Nat → Int64) (q : Bool) (tk pl : Nat → Nat) (nt : Nat) {α : Type} (cod : α → Nat → Cd) (iv : Nat → Nat → Int32) (C : Cd) (r : Rd α) (T : Option XR) : Prop := match r with
  | .inl e => ∃ iv', T = some (some (.inl (nI 0)), (SS im lw tl, iv', lv)) ∧ iv' 11 8 = nI (pl e) ∧ frE iv iv' ∧ ∃ s, s ≤ 400 ∧ iv' 12 2 = nI s
  | .inr x => ∃ iv', T = some (some (.inl (nI 1)), (SS im lw tl, iv', lv)) ∧ stC q tk pl nt iv' (C ++ cod x.1 C.length) x.2.1 x.2.2 ∧ frE iv iv'
def CP (X : XE) (im lw : List (Option Nat)) (tl : List XC) (q : Bool) (tk pl : Nat → Nat) (nt k N dp : Nat) {α : Type} (cod : α → Nat → Cd) (f : Nat → Nat → Rd α) : Prop := ∀ n, N ≤ n → ∀ (lv : Nat → Nat → Int64) (iv : Nat → Nat → Int32) (C : Cd) (c i : Nat), stC q tk pl nt iv C c i → C.length + 1 ≤ i → poC im lw tl lv q tk pl nt cod iv C (f c i) (call X xT n k [.inr (.inr (some 11)), .inl (nI dp)] (SS im lw tl, iv, lv))
def codE (e : Ex) (_ : Nat) : Cd := e.1
def codT (t : Te) (n : Nat) : Cd := t.1 n
theorem n1z : ¬ (nI 1 : Int32) = 0 := by decide
theorem n0z : (nI 0 : Int32) = 0 := by decide
section pd
variable {X : XE} {im lw : List (Option Nat)} {tl : List XC} {lv : Nat → Nat → Int64} {q : Bool} {tk pl : Nat → Nat} {nt : Nat}
theorem poC.tr {α : Type} {cod : α → Nat → Cd} {iv iv2 : Nat → Nat → Int32} {C : Cd} {r : Rd α} {T : Option XR} (h : poC im lw tl lv q tk pl nt cod iv2 C r T) (hf : frE iv iv2) : poC im lw tl lv q tk pl nt cod iv C r T := by
  cases r with
  | inl e => obtain ⟨iv', h1, h2, h3, h4⟩ := h; exact ⟨iv', h1, h2, hf.tr h3, h4⟩
  | inr x => obtain ⟨iv', h1, h2, h3⟩ := h; exact ⟨iv', h1, h2, hf.tr h3⟩
/-- one thing read: on from there -/
theorem poC_bI {α β : Type} {cod : α → Nat → Cd} {cod2 : β → Nat → Cd} {iv : Nat → Nat → Int32} {C C0 : Cd} {r : Rd α} {T : Option XR} {f : α → Nat → Nat → Rd β} {K : Int32 → XH → Option XR} (h : poC im lw tl lv q tk pl nt cod iv C r T) (h0 : ∀ e iv', r = .inl e → frE iv iv' → (∃ s, s ≤ 400 ∧ iv' 12 2 = nI s) → iv' 11 8 = nI (pl e) → poC im lw tl lv q tk pl nt cod2 iv C0 (.inl e) (K (nI 0) (SS im lw tl, iv', lv))) (h1 : ∀ x c i iv', r = .inr (x, c, i) → stC q tk pl nt iv' (C ++ cod x C.length) c i → frE iv iv' → poC im lw tl lv q tk pl nt cod2 iv C0 (f x c i) (K (nI 1) (SS im lw tl, iv', lv))) : poC im lw tl lv q tk pl nt cod2 iv C0 (thn r f) (bI T K) := by
  cases r with
  | inl e =>
    obtain ⟨iv', g1, g2, g3, g4⟩ := h
    rw [g1, bI_some]
    exact h0 e iv' rfl g3 g4 g2
  | inr x =>
    obtain ⟨iv', g1, g2, g3⟩ := h
    rw [g1, bI_some]
    exact h1 x.1 x.2.1 x.2.2 iv' rfl g2 g3
theorem poC_0 {α : Type} {cod : α → Nat → Cd} {iv iv' : Nat → Nat → Int32} {C : Cd} {e : Nat} (h1 : iv' 11 8 = nI (pl e)) (h2 : frE iv iv') (h3 : ∃ s, s ≤ 400 ∧ iv' 12 2 = nI s) {T : Option XR} (hT : T = some (some (.inl (nI 0)), (SS im lw tl, iv', lv))) : poC im lw tl lv q tk pl nt cod iv C (.inl e) T := ⟨iv', hT, h1, h2, h3⟩
/-- it fails here -/
theorem poC_f {α : Type} {cod : α → Nat → Cd} {iv : Nat → Nat → Int32} {C0 C : Cd} {c i m : Nat} (h : stC q tk pl nt iv C c i) {K : Int32 → XH → Option XR} (hK : ∀ iv', K (nI 0) (SS im lw tl, iv', lv) = some (some (.inl (nI 0)), (SS im lw tl, iv', lv))) : poC im lw tl lv q tk pl nt cod iv C0 (.inl i) (bI (call X xT (m + 1) 84 [.inr (.inr (some 11))] (SS im lw tl, iv, lv)) K) := by
  obtain ⟨iv', a1, a2, a3, a4⟩ := c_fails X im lw tl lv m h
  rw [a1, bI_some]
  exact ⟨iv', hK iv', a2, a3, a4⟩
theorem GF_len {W : Wv} {it : Nat → Nat → Rd Ex} (hg : GF nt (oE q W) it) {c i : Nat} (hc : c ≤ 50) (hi : i ≤ nt) {x : Ex} {c' i' : Nat} (e : it c i = .inr (x, c', i')) : i + x.1.length ≤ i' := by
  have := hg c i hc hi
  rw [e] at this
  obtain ⟨L, n, h1, h2, h3, h4, h5, h6⟩ := this
  have h1 : x.1.length ≤ n := h1.2.1
  have h4 : i + n = i' := h4
  omega
theorem cp_term {N dp : Nat} (hN : 2 ≤ N) {it : Nat → Nat → Rd Ex} (hg : GF nt (oE q (wvF q)) it) (hi : CP X im lw tl q tk pl nt 91 N dp codE it) : CP X im lw tl q tk pl nt 90 (N + 1) dp codE (rowF mulT eBin tk it) := by
  intro n hn lv iv C c i h hsl
  obtain ⟨m, rfl⟩ : ∃ m, n = m + 3 := ⟨n - 3, by omega⟩
  have loop : ∀ (k z : Nat) (iv : Nat → Nat → Int32) (x : Ex) (c1 i1 : Nat) (w3 : Option XV), z + k = 400 → stC q tk pl nt iv (C ++ x.1) c1 i1 → (C ++ x.1).length + 1 ≤ i1 → poC im lw tl lv q tk pl nt codE iv C (rowL mulT eBin tk it k x c1 i1) (run X (call X xT (m + 2)) false 4 xc90 12 [some (.inr (.inr (some 11))), some (.inl (nI dp)), some (.inl (nI z)), w3] [] (SS im lw tl, iv, lv)) := by
    intro k
    induction k with
    | zero =>
      intro z iv x c1 i1 w3 hz h hsl1
      rw [sg90_12, if_pos (nI_le (by omega) (by omega))]
      exact ⟨iv, rfl, h, frE.rf⟩
    | succ k ih =>
      intro z iv x c1 i1 w3 hz h hsl1
      have go : ∀ (w o : Nat), w ≤ 4000 → tk i1 = w → 3 ≤ o → o ≤ 10 → poC im lw tl lv q tk pl nt codE iv C (thn (it c1 (i1 + 1)) (fun y c2 i2 => rowL mulT eBin tk it k (eBin o x y) c2 i2)) (bV (call X xT (m + 2) 87 [.inr (.inr (some 11))] (SS im lw tl, iv, lv)) (fun h3 => run X (call X xT (m + 2)) false 4 xc90 80 [some (.inr (.inr (some 11))), some (.inl (nI dp)), some (.inl (nI z)), some (.inl (nI o))] [] h3)) := by
        intro w o hw ew h3 h10
        obtain ⟨iv1, a1, a2, a3⟩ := c_next X im lw tl lv (m + 1) h (h.lt hw ew)
        rw [a1, bV_some, sg90_80]
        refine poC.tr (poC_bI (hi (m + 2) (by omega) lv iv1 (C ++ x.1) c1 (i1 + 1) a2 (by omega)) (fun e iv' he hf hs hp => poC_0 hp hf hs (by rw [sg90_85, if_pos n0z])) (fun y c2 i2 iv' he hst hf => ?_)) a3
        have hl := GF_len hg h.2.2.1 a2.2.1 he
        obtain ⟨iv2, b1, b2, b3⟩ := c_emit X im lw tl lv (m + 1) hst (o := o) (a := 0) (by omega) (by omega) (by rw [List.length_append]; show _ + y.1.length + 1 ≤ i2; omega)
        rw [sg90_85, if_neg n1z, show (nI 0 : Int32) = nI 0 from rfl, b1, bI_some, sg90_99, nI_add]
        refine poC.tr (ih (z + 1) iv2 (eBin o x y) c2 i2 _ (by omega) ?_ ?_) (hf.tr b3)
        · have : C ++ (eBin o x y).1 = C ++ x.1 ++ codE y (C ++ x.1).length ++ [(o, 0)] := by
            show C ++ (x.1 ++ (y.1 ++ [(o, 0)])) = C ++ x.1 ++ y.1 ++ [(o, 0)]
            simp only [List.append_assoc]
          rw [this]; exact b2
        · show (C ++ (x.1 ++ (y.1 ++ [(o, 0)]))).length + 1 ≤ i2
          rw [List.length_append] at hsl1
          simp only [List.length_append, List.length_singleton]; omega
      rw [sg90_12, if_neg (nI_ge (by omega) (by omega))]
      unfold rowL
      by_cases e1 : tk i1 = 42
      · rw [if_pos ((h.eq (by omega)).mpr e1), if_pos ((h.eq (by omega)).mpr e1), show mulT (tk i1) = some 5 by rw [e1]; rfl]
        exact go 42 5 (by omega) e1 (by omega) (by omega)
      · rw [if_neg (fun z => e1 ((h.eq (by omega)).mp z))]
        by_cases e2 : tk i1 = 47
        · rw [if_pos ((h.eq (by omega)).mpr e2), if_neg (fun z => e1 ((h.eq (by omega)).mp z)), if_pos ((h.eq (by omega)).mpr e2), show mulT (tk i1) = some 6 by rw [e2]; rfl]
          exact go 47 6 (by omega) e2 (by omega) (by omega)
        · rw [if_neg (fun z => e2 ((h.eq (by omega)).mp z))]
          by_cases e3 : tk i1 = 37
          · rw [if_pos ((h.eq (by omega)).mpr e3), if_neg (fun z => e1 ((h.eq (by omega)).mp z)), if_neg (fun z => e2 ((h.eq (by omega)).mp z)), show mulT (tk i1) = some 7 by rw [e3]; rfl]
            exact go 37 7 (by omega) e3 (by omega) (by omega)
          · rw [if_neg (fun z => e3 ((h.eq (by omega)).mp z)), show mulT (tk i1) = none by unfold mulT; rw [if_neg e1, if_neg e2, if_neg e3]]
            exact ⟨iv, rfl, h, frE.rf⟩
  rw [tr90]
  unfold rowF
  refine poC_bI (hi (m + 2) (by omega) lv iv C c i h hsl) (fun e iv' he hf hs hp => poC_0 hp hf hs (by rw [sg90_5, if_pos n0z])) (fun x c1 i1 iv' he hst hf => ?_)
  rw [sg90_5, if_neg n1z]
  have hl := GF_len hg h.2.2.1 h.2.1 he
  exact poC.tr (loop 400 0 iv' x c1 i1 none (by omega) hst (by rw [List.length_append]; omega)) hf
theorem cp_sum {N dp : Nat} (hN : 2 ≤ N) {it : Nat → Nat → Rd Ex} (hg : GF nt (oE q (wvF q)) it) (hi : CP X im lw tl q tk pl nt 90 N dp codE it) : CP X im lw tl q tk pl nt 89 (N + 1) dp codE (rowF addT eBin tk it) := by
  intro n hn lv iv C c i h hsl
  obtain ⟨m, rfl⟩ : ∃ m, n = m + 3 := ⟨n - 3, by omega⟩
  have loop : ∀ (k z : Nat) (iv : Nat → Nat → Int32) (x : Ex) (c1 i1 : Nat) (w3 : Option XV), z + k = 400 → stC q tk pl nt iv (C ++ x.1) c1 i1 → (C ++ x.1).length + 1 ≤ i1 → poC im lw tl lv q tk pl nt codE iv C (rowL addT eBin tk it k x c1 i1) (run X (call X xT (m + 2)) false 4 xc89 12 [some (.inr (.inr (some 11))), some (.inl (nI dp)), some (.inl (nI z)), w3] [] (SS im lw tl, iv, lv)) := by
    intro k
    induction k with
    | zero =>
      intro z iv x c1 i1 w3 hz h hsl1
      rw [sg89_12, if_pos (nI_le (by omega) (by omega))]
      exact ⟨iv, rfl, h, frE.rf⟩
    | succ k ih =>
      intro z iv x c1 i1 w3 hz h hsl1
      have go : ∀ (w o : Nat), w ≤ 4000 → tk i1 = w → 3 ≤ o → o ≤ 10 → poC im lw tl lv q tk pl nt codE iv C (thn (it c1 (i1 + 1)) (fun y c2 i2 => rowL addT eBin tk it k (eBin o x y) c2 i2)) (bV (call X xT (m + 2) 87 [.inr (.inr (some 11))] (SS im lw tl, iv, lv)) (fun h3 => run X (call X xT (m + 2)) false 4 xc89 56 [some (.inr (.inr (some 11))), some (.inl (nI dp)), some (.inl (nI z)), some (.inl (nI o))] [] h3)) := by
        intro w o hw ew h3 h10
        obtain ⟨iv1, a1, a2, a3⟩ := c_next X im lw tl lv (m + 1) h (h.lt hw ew)
        rw [a1, bV_some, sg89_56]
        refine poC.tr (poC_bI (hi (m + 2) (by omega) lv iv1 (C ++ x.1) c1 (i1 + 1) a2 (by omega)) (fun e iv' he hf hs hp => poC_0 hp hf hs (by rw [sg89_61, if_pos n0z])) (fun y c2 i2 iv' he hst hf => ?_)) a3
        have hl := GF_len hg h.2.2.1 a2.2.1 he
        obtain ⟨iv2, b1, b2, b3⟩ := c_emit X im lw tl lv (m + 1) hst (o := o) (a := 0) (by omega) (by omega) (by rw [List.length_append]; show _ + y.1.length + 1 ≤ i2; omega)
        rw [sg89_61, if_neg n1z, b1, bI_some, sg89_75, nI_add]
        refine poC.tr (ih (z + 1) iv2 (eBin o x y) c2 i2 _ (by omega) ?_ ?_) (hf.tr b3)
        · have : C ++ (eBin o x y).1 = C ++ x.1 ++ codE y (C ++ x.1).length ++ [(o, 0)] := by
            show C ++ (x.1 ++ (y.1 ++ [(o, 0)])) = C ++ x.1 ++ y.1 ++ [(o, 0)]
            simp only [List.append_assoc]
          rw [this]; exact b2
        · show (C ++ (x.1 ++ (y.1 ++ [(o, 0)]))).length + 1 ≤ i2
          rw [List.length_append] at hsl1
          simp only [List.length_append, List.length_singleton]; omega
      rw [sg89_12, if_neg (nI_ge (by omega) (by omega))]
      unfold rowL
      by_cases e1 : tk i1 = 43
      · rw [if_pos ((h.eq (by omega)).mpr e1), if_pos ((h.eq (by omega)).mpr e1), show addT (tk i1) = some 3 by rw [e1]; rfl]
        exact go 43 3 (by omega) e1 (by omega) (by omega)
      · rw [if_neg (fun z => e1 ((h.eq (by omega)).mp z))]
        by_cases e2 : tk i1 = 45
        · rw [if_pos ((h.eq (by omega)).mpr e2), if_neg (fun z => e1 ((h.eq (by omega)).mp z)), show addT (tk i1) = some 4 by rw [e2]; rfl]
          exact go 45 4 (by omega) e2 (by omega) (by omega)
        · rw [if_neg (fun z => e2 ((h.eq (by omega)).mp z)), show addT (tk i1) = none by unfold addT; rw [if_neg e1, if_neg e2]]
          exact ⟨iv, rfl, h, frE.rf⟩
  rw [tr89]
  unfold rowF
  refine poC_bI (hi (m + 2) (by omega) lv iv C c i h hsl) (fun e iv' he hf hs hp => poC_0 hp hf hs (by rw [sg89_5, if_pos n0z])) (fun x c1 i1 iv' he hst hf => ?_)
  rw [sg89_5, if_neg n1z]
  have hl := GF_len hg h.2.2.1 h.2.1 he
  exact poC.tr (loop 400 0 iv' x c1 i1 none (by omega) hst (by rw [List.length_append]; omega)) hf
end pd
