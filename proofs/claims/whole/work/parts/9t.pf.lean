/-! the class's parser: tests -/
def odI (m : Nat) : Int32 := if m % 2 = 1 then nI 1 else nI 0
section pf
variable {X : XE} {im lw : List (Option Nat)} {tl : List XC} {lv : Nat → Nat → Int64} {q : Bool} {tk pl : Nat → Nat} {nt : Nat}
theorem GF_lenT {W : Wv} {it : Nat → Nat → Rd Te} (hg : GF nt (oT q W) it) {c i : Nat} (hc : c ≤ 50) (hi : i ≤ nt) {x : Te} {c' i' : Nat} (e : it c i = .inr (x, c', i')) (b : Nat) : i + (x.1 b).length ≤ i' := by
  have := hg c i hc hi
  rw [e] at this
  obtain ⟨L, n, h1, h2, h3, h4, h5, h6⟩ := this
  have h1 : (x.1 b).length ≤ n := (h1.2 b).1
  have h4 : i + n = i' := h4
  omega
/-- the end of a plain test: turned, or not -/
theorem c_turned (m : Nat) {iv : Nat → Nat → Int32} {C : Cd} {c i : Nat} {t : Te} (k : Nat) (h : stC q tk pl nt iv (C ++ t.1 C.length) c i) (hl : (C ++ t.1 C.length).length + 1 ≤ i) {iv0 : Nat → Nat → Int32} (hf : frE iv0 iv) (v1 v3 : Int32) : poC im lw tl lv q tk pl nt codT iv0 C (.inr (tNts k t, c, i)) (if odI k = 0 then some (some (.inl (nI 1)), (SS im lw tl, iv, lv)) else bI (call X xT (m + 1) 95 [.inr (.inr (some 12)), .inl (nI 11), .inl (nI 0)] (SS im lw tl, iv, lv)) (fun r2 h1 => run X (call X xT (m + 1)) false 4 xc100 150 [some (.inr (.inr (some 11))), some (.inl v1), some (.inl (odI k)), some (.inl v3)] [.inl r2] h1)) := by
  unfold odI
  by_cases e : k % 2 = 1
  · rw [if_pos e, if_neg n1z]
    obtain ⟨iv1, a1, a2, a3⟩ := c_emit X im lw tl lv m h (o := 11) (a := 0) (by omega) (by omega) hl
    rw [a1, bI_some, sg100_150]
    refine ⟨iv1, rfl, ?_, hf.tr a3⟩
    show stC q tk pl nt iv1 (C ++ (t.1 C.length ++ (if k % 2 = 1 then [(11, 0)] else []))) c i
    rw [if_pos e, ← List.append_assoc]; exact a2
  · rw [if_neg e, if_pos n0z]
    refine ⟨iv, rfl, ?_, hf⟩
    show stC q tk pl nt iv (C ++ (t.1 C.length ++ (if k % 2 = 1 then [(11, 0)] else []))) c i
    rw [if_neg e, List.append_nil]; exact h
theorem c_cmp (d : Nat) {iv : Nat → Nat → Int32} {C : Cd} {c i : Nat} (h : stC q tk pl nt iv C c i) : call X xT (d + 1) 101 [.inr (.inr (some 11))] (SS im lw tl, iv, lv) = some (some (.inl (match cmpT (tk i) with
    | none => -1
    | some o => nI o)), (SS im lw tl, iv, lv)) := by
  rw [tr101]
  unfold cmpT
  by_cases e1 : tk i = 60
  · rw [if_pos ((h.eq (by omega)).mpr e1), if_pos e1]
  rw [if_neg (h.nn (by omega) e1), if_neg e1]
  by_cases e2 : tk i = 62
  · rw [if_pos ((h.eq (by omega)).mpr e2), if_pos e2]
  rw [if_neg (h.nn (by omega) e2), if_neg e2]
  by_cases e3 : tk i = 61
  · rw [if_pos ((h.eq (by omega)).mpr e3), if_pos e3]
  rw [if_neg (h.nn (by omega) e3), if_neg e3]
theorem c_plainB {N dp : Nat} (hN : 3 ≤ N) (hd : dp ≤ 8) {sum : Nat → Nat → Rd Ex} {rec : Option (Nat → Nat → Rd Te)} (gs : GF nt (oE q (wvF q)) sum) (gr : ∀ f, rec = some f → GF nt (oT q (wvF q)) f) (hs : CP X im lw tl q tk pl nt 89 N dp codE sum) (h0 : rec = none → ¬ dp < 8) (h1 : ∀ f, rec = some f → dp < 8 ∧ CP X im lw tl q tk pl nt 98 N (dp + 1) codT f) (m : Nat) (hm : N ≤ m + 3) {iv : Nat → Nat → Int32} {C : Cd} {c i : Nat} (h : stC q tk pl nt iv C c i) (hsl : C.length + 1 ≤ i) (k : Nat) (v3 : Int32) : poC im lw tl lv q tk pl nt codT iv C (plainB q tk sum rec k c i) (if (iv 11 6) = nI 40 then if (nI dp : Int32) < nI 8 then bV (call X xT (m + 3) 87 [.inr (.inr (some 11))] (SS im lw tl, iv, lv)) (fun h3 => run X (call X xT (m + 3)) false 4 xc100 61 [some (.inr (.inr (some 11))), some (.inl (nI dp)), some (.inl (odI k)), some (.inl v3)] [] h3) else bI (call X xT (m + 3) 84 [.inr (.inr (some 11))] (SS im lw tl, iv, lv)) (fun r6 h5 => run X (call X xT (m + 3)) false 4 xc100 56 [some (.inr (.inr (some 11))), some (.inl (nI dp)), some (.inl (odI k)), some (.inl v3)] [.inl r6] h5) else bI (call X xT (m + 3) 89 [.inr (.inr (some 11)), .inl (nI dp)] (SS im lw tl, iv, lv)) (fun r2 h1 => run X (call X xT (m + 3)) false 4 xc100 92 [some (.inr (.inr (some 11))), some (.inl (nI dp)), some (.inl (odI k)), some (.inl v3)] [.inl r2] h1)) := by
  unfold plainB
  by_cases e : tk i = 40
  · rw [if_pos e, if_pos ((h.eq (by omega)).mpr e)]
    cases rec with
    | none =>
      rw [if_neg (nI_nlt (by have := h0 rfl; omega) (by omega))]
      exact poC_f (m := m + 2) h (fun iv' => by rw [sg100_56, if_pos (by decide)])
    | some f =>
      obtain ⟨d8, hf⟩ := h1 f rfl
      rw [if_pos (nI_lt d8 (by omega))]
      obtain ⟨iv1, a1, a2, a3⟩ := c_next X im lw tl lv (m + 2) h (h.lt (by omega) e)
      rw [a1, bV_some, sg100_61, nI_add]
      unfold shut
      refine poC.tr (poC_bI (hf (m + 3) (by omega) lv iv1 C c (i + 1) a2 (by omega)) (fun e iv' he hf hs hp => poC_0 hp hf hs (by rw [sg100_68, if_pos n0z])) (fun y c2 i2 iv' he hst hf => ?_)) a3
      have hl := GF_lenT (gr f rfl) h.2.2.1 a2.2.1 he C.length
      obtain ⟨iv2, b1, b2, b3⟩ := c_takes X im lw tl lv (m + 1) hst (w := 41) (by omega)
      rw [sg100_68, if_neg n1z, b1, bI_some, sg100_79, b2i_ite]
      by_cases e3 : tk i2 = 41
      · rw [if_pos e3, if_pos (decide_eq_true e3)]
        rw [if_pos e3] at b2
        exact c_turned (m + 2) k b2 (by rw [List.length_append]; show _ + (y.1 C.length).length + 1 ≤ _; omega) (hf.tr b3) _ _
      · rw [if_neg e3, if_neg (show ¬ decide (tk i2 = 41) = true by rw [decide_eq_false e3]; decide)]
        rw [if_neg e3] at b2
        exact (poC_f (m := m + 2) b2 (fun iv' => by rw [sg100_86, if_pos (by decide)])).tr (hf.tr b3)
  · rw [if_neg e, if_neg (h.nn (by omega) e)]
    refine poC_bI (hs (m + 3) (by omega) lv iv C c i h hsl) (fun e iv' he hf hs hp => poC_0 hp hf hs (by rw [sg100_92, if_pos n0z])) (fun a c1 i1 iv1 he hst hf => ?_)
    have hl := GF_len gs h.2.2.1 h.2.1 he
    rw [sg100_92, if_neg n1z, c_cmp (m + 2) hst, bI_some, sg100_101]
    cases hcm : cmpT (tk i1) with
    | none =>
      simp only
      rw [if_pos (by trivial)]
      exact (poC_f (m := m + 2) hst (fun iv' => by rw [sg100_111, if_pos (by decide)])).tr hf
    | some o =>
      obtain ⟨o1, o2, o3⟩ := cmpT_ok hcm
      simp only
      rw [if_neg (nI_m1 (by omega))]
      have hlt : i1 < nt := by
        rcases Nat.lt_or_ge i1 nt with z | z
        · exact z
        · exact absurd (by rw [show i1 = nt by have := hst.2.1; omega]; exact hst.1.2.1) o3
      obtain ⟨iv2, a1, a2, a3⟩ := c_next X im lw tl lv (m + 2) hst hlt
      rw [a1, bV_some, sg100_116]
      refine poC.tr (poC_bI (hs (m + 3) (by omega) lv iv2 (C ++ a.1) c1 (i1 + 1) a2 (by rw [List.length_append]; omega)) (fun e iv' he hf hs hp => poC_0 hp hf hs (by rw [sg100_121, if_pos n0z])) (fun b c2 i2 iv3 he2 hst2 hf2 => ?_)) (hf.tr a3)
      have hl2 := GF_len gs hst.2.2.1 a2.2.1 he2
      obtain ⟨iv4, b1, b2, b3⟩ := c_emit X im lw tl lv (m + 2) hst2 (o := o) (a := 0) (by omega) (by omega) (by rw [List.length_append, List.length_append]; show _ + _ + b.1.length + 1 ≤ _; omega)
      rw [sg100_121, if_neg n1z, b1, bI_some, sg100_135]
      have ec : C ++ (tCmp o a b).1 C.length = C ++ a.1 ++ codE b (C ++ a.1).length ++ [(o, 0)] := by
        show C ++ (a.1 ++ (b.1 ++ [(o, 0)])) = C ++ a.1 ++ b.1 ++ [(o, 0)]
        simp only [List.append_assoc]
      rw [← ec] at b2
      refine c_turned (m + 2) (t := tCmp o a b) k b2 ?_ (hf2.tr b3) _ _
      show (C ++ (a.1 ++ (b.1 ++ [(o, 0)]))).length + 1 ≤ i2
      simp only [List.length_append, List.length_singleton]; omega
theorem cp_plain {N dp : Nat} (hN : 3 ≤ N) (hd : dp ≤ 8) {sum : Nat → Nat → Rd Ex} {rec : Option (Nat → Nat → Rd Te)} (gs : GF nt (oE q (wvF q)) sum) (gr : ∀ f, rec = some f → GF nt (oT q (wvF q)) f) (hs : CP X im lw tl q tk pl nt 89 N dp codE sum) (h0 : rec = none → ¬ dp < 8) (h1 : ∀ f, rec = some f → dp < 8 ∧ CP X im lw tl q tk pl nt 98 N (dp + 1) codT f) : CP X im lw tl q tk pl nt 100 (N + 1) dp codT (plainF q tk sum rec) := by
  intro n hn lv iv C c i h hsl
  obtain ⟨m, rfl⟩ : ∃ m, n = m + 4 := ⟨n - 4, by omega⟩
  have loop : ∀ (k z : Nat) (iv : Nat → Nat → Int32) (i m0 : Nat), z + k = 400 → stC q tk pl nt iv C c i → C.length + 1 ≤ i → poC im lw tl lv q tk pl nt codT iv C (plainB q tk sum rec (m0 + nots tk k i) c (i + nots tk k i)) (run X (call X xT (m + 3)) false 4 xc100 4 [some (.inr (.inr (some 11))), some (.inl (nI dp)), some (.inl (odI m0)), some (.inl (nI z))] [] (SS im lw tl, iv, lv)) := by
    intro k
    induction k with
    | zero =>
      intro z iv i m0 hz h hsl
      rw [sg100_4, if_pos (nI_le (by omega) (by omega))]
      exact c_plainB hN hd gs gr hs h0 h1 m (by omega) h hsl m0 _
    | succ k ih =>
      intro z iv i m0 hz h hsl
      obtain ⟨iv1, a1, a2, a3⟩ := c_takes X im lw tl lv (m + 1) h (w := 2014) (by omega)
      rw [sg100_4, if_neg (nI_ge (by omega) (by omega)), a1, bI_some, sg100_18, b2i_ite]
      unfold nots
      by_cases e : tk i = 2014
      · rw [if_pos (decide_eq_true e), if_pos e]
        rw [if_pos e] at a2
        have nx := ih (z + 1) iv1 (i + 1) (m0 + 1) (by omega) a2 (by omega)
        rw [show m0 + 1 + nots tk k (i + 1) = m0 + (nots tk k (i + 1) + 1) by omega, show i + 1 + nots tk k (i + 1) = i + (nots tk k (i + 1) + 1) by omega] at nx
        refine poC.tr ?_ a3
        rw [nI_add]
        unfold odI at nx ⊢
        by_cases p : m0 % 2 = 1
        · rw [if_pos p, if_neg n1z]
          rw [if_neg (show ¬ (m0 + 1) % 2 = 1 by omega)] at nx
          exact nx
        · rw [if_neg p, if_pos n0z]
          rw [if_pos (show (m0 + 1) % 2 = 1 by omega)] at nx
          exact nx
      · rw [if_neg (show ¬ decide (tk i = 2014) = true by rw [decide_eq_false e]; decide), if_neg e]
        rw [if_neg e] at a2
        exact (c_plainB hN hd gs gr hs h0 h1 m (by omega) a2 hsl m0 _).tr a3
  rw [tr100]
  unfold plainF
  have := loop 400 0 iv i 0 (by omega) h hsl
  rw [Nat.zero_add] at this
  exact this
theorem cp_both {N dp : Nat} (hN : 2 ≤ N) {it : Nat → Nat → Rd Te} (hg : GF nt (oT q (wvF q)) it) (hi : CP X im lw tl q tk pl nt 100 N dp codT it) : CP X im lw tl q tk pl nt 99 (N + 1) dp codT (rowF andT (fun _ => tCon) tk it) := by
  intro n hn lv iv C c i h hsl
  obtain ⟨m, rfl⟩ : ∃ m, n = m + 3 := ⟨n - 3, by omega⟩
  have loop : ∀ (k z : Nat) (iv : Nat → Nat → Int32) (x : Te) (c1 i1 : Nat) (w3 : Option XV), z + k = 400 → stC q tk pl nt iv (C ++ x.1 C.length) c1 i1 → (C ++ x.1 C.length).length + 1 ≤ i1 → poC im lw tl lv q tk pl nt codT iv C (rowL andT (fun _ => tCon) tk it k x c1 i1) (run X (call X xT (m + 2)) false 4 xc99 12 [some (.inr (.inr (some 11))), some (.inl (nI dp)), some (.inl (nI z)), w3] [] (SS im lw tl, iv, lv)) := by
    intro k
    induction k with
    | zero =>
      intro z iv x c1 i1 w3 hz h hsl1
      rw [sg99_12, if_pos (nI_le (by omega) (by omega))]
      exact ⟨iv, rfl, h, frE.rf⟩
    | succ k ih =>
      intro z iv x c1 i1 w3 hz h hsl1
      obtain ⟨iv1, a1, a2, a3⟩ := c_takes X im lw tl lv m h (w := 2013) (by omega)
      rw [sg99_12, if_neg (nI_ge (by omega) (by omega)), a1, bI_some, sg99_26, b2i_ite]
      unfold rowL
      by_cases e : tk i1 = 2013
      · rw [if_pos e] at a2
        obtain ⟨iv2, b1, b2, b3⟩ := c_emit X im lw tl lv (m + 1) a2 (o := 13) (a := 0) (by omega) (by omega) (by omega)
        rw [if_pos (decide_eq_true e), b1, bI_some, sg99_39, show andT (tk i1) = some 13 by rw [e]; rfl]
        refine poC.tr (poC_bI (hi (m + 2) (by omega) lv iv2 (C ++ x.1 C.length ++ [(13, 0)]) c1 (i1 + 1) b2 (by rw [List.length_append (as := C ++ x.1 C.length), List.length_singleton]; omega)) (fun e iv' he hf hs hp => poC_0 hp hf hs (by rw [sg99_45, if_pos n0z])) (fun y c2 i2 iv3 he hst hf => ?_)) (a3.tr b3)
        have hl := GF_lenT hg h.2.2.1 b2.2.1 he (C ++ x.1 C.length ++ [(13, 0)]).length
        have ec : C ++ x.1 C.length ++ [(13, 0)] ++ codT y (C ++ x.1 C.length ++ [(13, 0)]).length = (C ++ x.1 C.length) ++ (13, 0) :: (y.1 (C ++ x.1 C.length ++ [(13, 0)]).length) := by
          show C ++ x.1 C.length ++ [(13, 0)] ++ y.1 _ = _
          simp only [List.append_assoc, List.singleton_append]
        rw [ec] at hst
        obtain ⟨iv4, d1, d2, d3⟩ := c_aim X im lw tl lv (m + 1) hst (by omega) (by omega)
        rw [sg99_45, if_neg n1z, d1, bV_some, sg99_58, nI_add]
        have hn : (C ++ x.1 C.length ++ [(13, 0)]).length = C.length + (x.1 C.length).length + 1 := by simp only [List.length_append, List.length_singleton]
        have ec2 : (C ++ x.1 C.length) ++ (13, (C ++ x.1 C.length).length + 1 + (y.1 (C ++ x.1 C.length ++ [(13, 0)]).length).length) :: (y.1 (C ++ x.1 C.length ++ [(13, 0)]).length) = C ++ (tCon x y).1 C.length := by
          rw [hn, List.length_append, List.append_assoc]; rfl
        rw [ec2] at d2
        refine poC.tr (ih (z + 1) iv4 (tCon x y) c2 i2 _ (by omega) d2 ?_) (hf.tr d3)
        rw [← ec2]
        rw [List.length_append, List.length_cons]
        omega
      · rw [if_neg e] at a2
        rw [if_neg (show ¬ decide (tk i1 = 2013) = true by rw [decide_eq_false e]; decide), show andT (tk i1) = none by unfold andT; exact if_neg e]
        exact ⟨iv1, rfl, a2, a3⟩
  rw [tr99]
  unfold rowF
  refine poC_bI (hi (m + 2) (by omega) lv iv C c i h hsl) (fun e iv' he hf hs hp => poC_0 hp hf hs (by rw [sg99_5, if_pos n0z])) (fun x c1 i1 iv' he hst hf => ?_)
  rw [sg99_5, if_neg n1z]
  have hl := GF_lenT hg h.2.2.1 h.2.1 he C.length
  exact poC.tr (loop 400 0 iv' x c1 i1 none (by omega) hst (by rw [List.length_append]; omega)) hf
theorem cp_test {N dp : Nat} (hN : 2 ≤ N) {it : Nat → Nat → Rd Te} (hg : GF nt (oT q (wvF q)) it) (hi : CP X im lw tl q tk pl nt 99 N dp codT it) : CP X im lw tl q tk pl nt 98 (N + 1) dp codT (rowF orT (fun _ => tDis) tk it) := by
  intro n hn lv iv C c i h hsl
  obtain ⟨m, rfl⟩ : ∃ m, n = m + 3 := ⟨n - 3, by omega⟩
  have loop : ∀ (k z : Nat) (iv : Nat → Nat → Int32) (x : Te) (c1 i1 : Nat) (w3 : Option XV), z + k = 400 → stC q tk pl nt iv (C ++ x.1 C.length) c1 i1 → (C ++ x.1 C.length).length + 1 ≤ i1 → poC im lw tl lv q tk pl nt codT iv C (rowL orT (fun _ => tDis) tk it k x c1 i1) (run X (call X xT (m + 2)) false 4 xc98 12 [some (.inr (.inr (some 11))), some (.inl (nI dp)), some (.inl (nI z)), w3] [] (SS im lw tl, iv, lv)) := by
    intro k
    induction k with
    | zero =>
      intro z iv x c1 i1 w3 hz h hsl1
      rw [sg98_12, if_pos (nI_le (by omega) (by omega))]
      exact ⟨iv, rfl, h, frE.rf⟩
    | succ k ih =>
      intro z iv x c1 i1 w3 hz h hsl1
      obtain ⟨iv1, a1, a2, a3⟩ := c_takes X im lw tl lv m h (w := 2012) (by omega)
      rw [sg98_12, if_neg (nI_ge (by omega) (by omega)), a1, bI_some, sg98_26, b2i_ite]
      unfold rowL
      by_cases e : tk i1 = 2012
      · rw [if_pos e] at a2
        obtain ⟨iv2, b1, b2, b3⟩ := c_emit X im lw tl lv (m + 1) a2 (o := 12) (a := 0) (by omega) (by omega) (by omega)
        rw [if_pos (decide_eq_true e), b1, bI_some, sg98_39, show orT (tk i1) = some 12 by rw [e]; rfl]
        refine poC.tr (poC_bI (hi (m + 2) (by omega) lv iv2 (C ++ x.1 C.length ++ [(12, 0)]) c1 (i1 + 1) b2 (by rw [List.length_append (as := C ++ x.1 C.length), List.length_singleton]; omega)) (fun e iv' he hf hs hp => poC_0 hp hf hs (by rw [sg98_45, if_pos n0z])) (fun y c2 i2 iv3 he hst hf => ?_)) (a3.tr b3)
        have hl := GF_lenT hg h.2.2.1 b2.2.1 he (C ++ x.1 C.length ++ [(12, 0)]).length
        have ec : C ++ x.1 C.length ++ [(12, 0)] ++ codT y (C ++ x.1 C.length ++ [(12, 0)]).length = (C ++ x.1 C.length) ++ (12, 0) :: (y.1 (C ++ x.1 C.length ++ [(12, 0)]).length) := by
          show C ++ x.1 C.length ++ [(12, 0)] ++ y.1 _ = _
          simp only [List.append_assoc, List.singleton_append]
        rw [ec] at hst
        obtain ⟨iv4, d1, d2, d3⟩ := c_aim X im lw tl lv (m + 1) hst (by omega) (by omega)
        rw [sg98_45, if_neg n1z, d1, bV_some, sg98_58, nI_add]
        have hn : (C ++ x.1 C.length ++ [(12, 0)]).length = C.length + (x.1 C.length).length + 1 := by simp only [List.length_append, List.length_singleton]
        have ec2 : (C ++ x.1 C.length) ++ (12, (C ++ x.1 C.length).length + 1 + (y.1 (C ++ x.1 C.length ++ [(12, 0)]).length).length) :: (y.1 (C ++ x.1 C.length ++ [(12, 0)]).length) = C ++ (tDis x y).1 C.length := by
          rw [hn, List.length_append, List.append_assoc]; rfl
        rw [ec2] at d2
        refine poC.tr (ih (z + 1) iv4 (tDis x y) c2 i2 _ (by omega) d2 ?_) (hf.tr d3)
        rw [← ec2]
        rw [List.length_append, List.length_cons]
        omega
      · rw [if_neg e] at a2
        rw [if_neg (show ¬ decide (tk i1 = 2012) = true by rw [decide_eq_false e]; decide), show orT (tk i1) = none by unfold orT; exact if_neg e]
        exact ⟨iv1, rfl, a2, a3⟩
  rw [tr98]
  unfold rowF
  refine poC_bI (hi (m + 2) (by omega) lv iv C c i h hsl) (fun e iv' he hf hs hp => poC_0 hp hf hs (by rw [sg98_5, if_pos n0z])) (fun x c1 i1 iv' he hst hf => ?_)
  rw [sg98_5, if_neg n1z]
  have hl := GF_lenT hg h.2.2.1 h.2.1 he C.length
  exact poC.tr (loop 400 0 iv' x c1 i1 none (by omega) hst (by rw [List.length_append]; omega)) hf
theorem CP_mo {α : Type} {k N M dp : Nat} {cod : α → Nat → Cd} {f : Nat → Nat → Rd α} (h : CP X im lw tl q tk pl nt k N dp cod f) (hm : N ≤ M) : CP X im lw tl q tk pl nt k M dp cod f := fun n hn => h n (by omega)
theorem cp_testF {N dp : Nat} (he : tk nt = 9999) (hN : 3 ≤ N) (hd : dp ≤ 8) {sum : Nat → Nat → Rd Ex} {rec : Option (Nat → Nat → Rd Te)} (gs : GF nt (oE q (wvF q)) sum) (gr : ∀ f, rec = some f → GF nt (oT q (wvF q)) f) (hs : CP X im lw tl q tk pl nt 89 N dp codE sum) (h0 : rec = none → ¬ dp < 8) (h1 : ∀ f, rec = some f → dp < 8 ∧ CP X im lw tl q tk pl nt 98 N (dp + 1) codT f) : CP X im lw tl q tk pl nt 98 (N + 3) dp codT (testF q tk sum rec) := by
  have gp := GF_plain he gs gr
  have gb : GF nt (oT q (wvF q)) (rowF andT (fun _ => tCon) tk (plainF q tk sum rec)) := GF_row he (by decide) (fun o t x y L1 L2 n1 n2 ho hx hy => oT_jmp true hx hy) gp
  exact cp_test (by omega) gb (cp_both (by omega) gp (cp_plain hN hd gs gr hs h0 h1))
theorem cp_testB (he : tk nt = 9999) : ∀ b, b ≤ 8 → CP X im lw tl q tk pl nt 98 (9 + 3 * b) (8 - b) codT (pTest q tk b) := by
  intro b
  induction b with
  | zero => intro _; exact cp_testF (N := 6) he (by omega) (by omega) (GF_sum he (wvF_ok q) 0) (fun f h => by cases h) (cp_sumB he 0 (by omega)) (fun _ => by omega) (fun f h => by cases h)
  | succ b ih =>
    intro hb
    rw [show 9 + 3 * (b + 1) = 9 + 3 * b + 3 by omega]
    refine cp_testF (N := 9 + 3 * b) he (by omega) (by omega) (GF_sum he (wvF_ok q) (b + 1)) (fun f h => by injection h with h; rw [← h]; exact GF_test he (wvF_ok q) b) (CP_mo (cp_sumB he (b + 1) hb) (by omega)) (fun h => by cases h) (fun f h => by
      injection h with h
      rw [← h, show 8 - (b + 1) + 1 = 8 - b by omega]
      exact ⟨by omega, ih (by omega)⟩)
end pf
