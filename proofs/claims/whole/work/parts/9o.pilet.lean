/-! the reference's reading: tests -/
def nxT (lo t : Nat) : Prop := (lo ≤ 2 → t ≠ 2013) ∧ (lo ≤ 1 → t ≠ 2012)
def SimT (q : Bool) (tk : Nat → Nat) (nt lo o : Nat) (it : Nat → Nat → Rd Te) : Prop := ∀ (i : Nat) (C P : Cd) (c : Nat), c ≤ 50 → i ≤ nt → hdl lo P → inn P ≠ some 32 → (∀ e, it c i = .inl e → Rch q tk true (0, (i, C, P, o, c)) (.inl e)) ∧ ∀ x c' i', it c i = .inr (x, c', i') → ∃ C' D, (∀ y, y ∈ D → y.1 < 31 ∧ lo ≤ bnd y.1) ∧ D.foldl fl1 C' = C ++ x.2.1 C.length ∧ Rch q tk true (0, (i, C, P, o, c)) (.inr (2, (i', C', D ++ P, o, c'))) ∧ nxT lo (tk i')
/-- a jump is aimed -/
theorem fl1_jmp (C a b : Cd) {o : Nat} (ho : o = 29 ∨ o = 30) : fl1 ((C ++ a ++ [(o, 0)]) ++ b) (o, (C ++ a).length) = C ++ (a ++ ((o, C.length + a.length + 1 + b.length) :: b)) := by
  unfold fl1
  rw [if_pos ho]
  simp only
  have e : (C ++ a ++ [(o, 0)]) ++ b = (C ++ a) ++ ((o, 0) :: b) := by simp
  have g : (((C ++ a) ++ ((o, 0) :: b)).getD (C ++ a).length (0, 0)) = (o, 0) := by
    rw [List.getD_eq_getElem?_getD, List.getElem?_append_right (by omega), Nat.sub_self]; rfl
  rw [e, List.set_append, if_neg (by omega), Nat.sub_self, g]
  show C ++ a ++ (o, ((C ++ a) ++ ((o, 0) :: b)).length) :: b = _
  rw [List.append_assoc]
  have e2 : ((C ++ a) ++ ((o, 0) :: b)).length = C.length + a.length + 1 + b.length := by
    simp only [List.length_append, List.length_cons]; omega
  rw [e2]
theorem sim_rowT {q : Bool} {tk : Nat → Nat} {nt lo o ws om : Nat} {sg : Nat → Option Nat} {mk : Nat → Te → Te → Te} {it : Nat → Nat → Rd Te} (he : tk nt = 9999) (hn : nt ≤ 400) (hs : ∀ t op, sg t = some op → t = ws) (hs2 : ∀ t, sg t = none → nxT (lo + 1) t → nxT lo t) (h9 : sg 9999 = none) (hr : ∀ i C P c o, tk i = ws → rTest tk i C P o c = .inr (0, (i + 1, (stl lo P C).1 ++ [(om, 0)], (om, (stl lo P C).1.length) :: (stl lo P C).2, o, c))) (ho : om = 29 ∨ om = 30) (hb : bnd om = lo) (hm : ∀ op x y, (mk op x y).2.1 = jmp om x.2.1 y.2.1) (hg : GF nt (oT q (wvF q)) it) (hi : SimT q tk nt (lo + 1) o it) : SimT q tk nt lo o (rowF sg mk tk it) := by
  intro i C P c hc hi2 hP hin
  have o31 : om < 31 := by omega
  have loop : ∀ (k : Nat) (x : Te) (c1 i1 : Nat) (C1 D : Cd), c1 ≤ 50 → i1 ≤ nt → 401 ≤ i1 + k → (∀ y, y ∈ D → y.1 < 31 ∧ lo ≤ bnd y.1) → D.foldl fl1 C1 = C ++ x.2.1 C.length → nxT (lo + 1) (tk i1) → (∀ e, rowL sg mk tk it k x c1 i1 = .inl e → Rch q tk true (2, (i1, C1, D ++ P, o, c1)) (.inl e)) ∧ ∀ x' c' i', rowL sg mk tk it k x c1 i1 = .inr (x', c', i') → ∃ C' D', (∀ y, y ∈ D' → y.1 < 31 ∧ lo ≤ bnd y.1) ∧ D'.foldl fl1 C' = C ++ x'.2.1 C.length ∧ Rch q tk true (2, (i1, C1, D ++ P, o, c1)) (.inr (2, (i', C', D' ++ P, o, c'))) ∧ nxT lo (tk i') := by
    intro k
    induction k with
    | zero => intro x c1 i1 C1 D h1 h2 h3 h4 h5 h6; omega
    | succ k ih =>
      intro x c1 i1 C1 D h1 h2 h3 h4 h5 h6
      unfold rowL
      cases hsg : sg (tk i1) with
      | none =>
        refine ⟨fun e h => (by cases h), fun x' c' i' h => ?_⟩
        injection h with h
        injection h with ha h
        injection h with hb hd
        subst ha; subst hb; subst hd
        exact ⟨C1, D, h4, h5, Rch.rf _, hs2 _ hsg h6⟩
      | some op =>
        have hw := hs _ _ hsg
        have hlt : i1 ≠ nt := fun z => by rw [z, he, h9] at hsg; cases hsg
        have s1 : stp q tk true (2, (i1, C1, D ++ P, o, c1)) = .inr (0, (i1 + 1, C ++ x.2.1 C.length ++ [(om, 0)], (om, (C ++ x.2.1 C.length).length) :: P, o, c1)) := by
          show rTest tk i1 C1 (D ++ P) o c1 = _
          rw [hr _ _ _ _ _ hw, stl_app D P C1 (fun y hy => (h4 y hy).2) hP, h5]
        obtain ⟨a1, a2⟩ := hi (i1 + 1) (C ++ x.2.1 C.length ++ [(om, 0)]) ((om, (C ++ x.2.1 C.length).length) :: P) c1 h1 (by omega) (fun z hz => by injection hz with hz; rw [← hz]; show bnd om < _; omega) (by
          rw [show ((om, (C ++ x.2.1 C.length).length) :: P) = [(om, (C ++ x.2.1 C.length).length)] ++ P from rfl, inn_app _ _ (fun z hz => by rw [List.mem_singleton.mp hz]; exact o31)]
          exact hin)
        have nxt : ∀ (y : Te) (C2 D2 : Cd), (∀ z, z ∈ D2 → z.1 < 31 ∧ lo + 1 ≤ bnd z.1) → D2.foldl fl1 C2 = C ++ x.2.1 C.length ++ [(om, 0)] ++ y.2.1 (C ++ x.2.1 C.length ++ [(om, 0)]).length → (∀ z, z ∈ D2 ++ [(om, (C ++ x.2.1 C.length).length)] → z.1 < 31 ∧ lo ≤ bnd z.1) ∧ (D2 ++ [(om, (C ++ x.2.1 C.length).length)]).foldl fl1 C2 = C ++ (mk op x y).2.1 C.length := by
          intro y C2 D2 b1 b2
          refine ⟨fun w hw => ?_, ?_⟩
          · rcases List.mem_append.mp hw with hw | hw
            · obtain ⟨u1, u2⟩ := b1 w hw; exact ⟨u1, by omega⟩
            · rw [List.mem_singleton.mp hw]; exact ⟨o31, by show lo ≤ bnd om; omega⟩
          · rw [List.foldl_append, b2]
            show fl1 _ (om, _) = _
            rw [fl1_jmp _ _ _ ho, hm]
            unfold jmp
            have e : (C ++ x.2.1 C.length ++ [(om, 0)]).length = C.length + (x.2.1 C.length).length + 1 := by
              simp only [List.length_append, List.length_singleton]
            rw [e]
        simp only
        refine ⟨fun e h => ?_, fun x' c' i' h => ?_⟩
        · rcases thn_l h with h | ⟨y, c2, i2, g1, g2⟩
          · exact Rch.st s1 (a1 e h)
          · obtain ⟨C2, D2, b1, b2, b3, b4⟩ := a2 y c2 i2 g1
            obtain ⟨z1, z2, z3⟩ := GF_r hg h1 (by omega) g1
            obtain ⟨n1, n2⟩ := nxt y C2 D2 b1 b2
            have := (ih (mk op x y) c2 i2 C2 _ z1 z3 (by omega) n1 n2 b4).1 e g2
            rw [List.append_assoc] at this
            exact Rch.st s1 (b3.tr this)
        · obtain ⟨y, c2, i2, g1, g2⟩ := thn_r h
          obtain ⟨C2, D2, b1, b2, b3, b4⟩ := a2 y c2 i2 g1
          obtain ⟨z1, z2, z3⟩ := GF_r hg h1 (by omega) g1
          obtain ⟨n1, n2⟩ := nxt y C2 D2 b1 b2
          obtain ⟨C3, D3, d1, d2, d3, d4⟩ := (ih (mk op x y) c2 i2 C2 _ z1 z3 (by omega) n1 n2 b4).2 x' c' i' g2
          rw [List.append_assoc] at d3
          exact ⟨C3, D3, d1, d2, Rch.st s1 (b3.tr d3), d4⟩
  obtain ⟨a1, a2⟩ := hi i C P c hc hi2 (fun x hx => by have := hP x hx; omega) hin
  unfold rowF
  refine ⟨fun e h => ?_, fun x' c' i' h => ?_⟩
  · rcases thn_l h with h | ⟨y, c2, i2, g1, g2⟩
    · exact a1 e h
    · obtain ⟨C2, D2, b1, b2, b3, b4⟩ := a2 y c2 i2 g1
      obtain ⟨z1, z2, z3⟩ := GF_r hg hc hi2 g1
      exact b3.tr ((loop 400 y c2 i2 C2 D2 z1 z3 (by omega) (fun w hw => by obtain ⟨u1, u2⟩ := b1 w hw; exact ⟨u1, by omega⟩) b2 b4).1 e g2)
  · obtain ⟨y, c2, i2, g1, g2⟩ := thn_r h
    obtain ⟨C2, D2, b1, b2, b3, b4⟩ := a2 y c2 i2 g1
    obtain ⟨z1, z2, z3⟩ := GF_r hg hc hi2 g1
    obtain ⟨C3, D3, d1, d2, d3, d4⟩ := (loop 400 y c2 i2 C2 D2 z1 z3 (by omega) (fun w hw => by obtain ⟨u1, u2⟩ := b1 w hw; exact ⟨u1, by omega⟩) b2 b4).2 x' c' i' g2
    exact ⟨C3, D3, d1, d2, b3.tr d3, d4⟩
theorem nots_end {tk : Nat → Nat} : ∀ k i, tk (i + nots tk k i) ≠ 2014 ∨ nots tk k i = k := by
  intro k
  induction k with
  | zero => intro i; exact Or.inr rfl
  | succ k ih =>
    intro i
    unfold nots
    by_cases e : tk i = 2014
    · rw [if_pos e]
      rcases ih (i + 1) with h | h
      · exact Or.inl (by rw [show i + (nots tk k (i + 1) + 1) = i + 1 + nots tk k (i + 1) by omega]; exact h)
      · exact Or.inr (by omega)
    · rw [if_neg e]; exact Or.inl e
theorem Rch_nots {q : Bool} {tk : Nat → Nat} {C : Cd} {o c : Nat} : ∀ (k i : Nat) (P : Cd), Rch q tk true (0, (i, C, P, o, c)) (.inr (0, (i + nots tk k i, C, List.replicate (nots tk k i) (28, 0) ++ P, o, c))) := by
  intro k
  induction k with
  | zero => intro i P; exact Rch.rf _
  | succ k ih =>
    intro i P
    unfold nots
    by_cases e : tk i = 2014
    · rw [if_pos e]
      have s1 : stp q tk true (0, (i, C, P, o, c)) = .inr (0, (i + 1, C, (28, 0) :: P, o, c)) := by
        show rPlain q tk i C P o c = _
        unfold rPlain
        rw [if_pos e]
      have := ih (i + 1) ((28, 0) :: P)
      rw [show i + (nots tk k (i + 1) + 1) = i + 1 + nots tk k (i + 1) by omega, List.replicate_succ', List.append_assoc]
      exact Rch.st s1 this
    · rw [if_neg e]; exact Rch.rf _
theorem Rch_01 {q : Bool} {tk : Nat → Nat} {i : Nat} {C P : Cd} {o c : Nat} {r : Nat ⊕ (Nat × Sp)} (h1 : tk i ≠ 2014) (h2 : tk i ≠ 40) (hr : r ≠ .inr (1, (i, C, P, o, c))) (h : Rch q tk true (1, (i, C, P, o, c)) r) : Rch q tk true (0, (i, C, P, o, c)) r := by
  obtain ⟨n, h⟩ := h
  cases n with
  | zero => exact absurd h.symm hr
  | succ n =>
    refine ⟨n + 1, ?_⟩
    rw [goR_s] at h ⊢
    have e : stp q tk true (0, (i, C, P, o, c)) = stp q tk true (1, (i, C, P, o, c)) := by
      show rPlain q tk i C P o c = rPart q tk i C P o c
      unfold rPlain
      rw [if_neg h1, if_neg h2]
    rw [e]; exact h
theorem fold_nots (m : Nat) : ∀ (C : Cd), (List.replicate m (28, 0)).foldl fl1 C = C ++ List.replicate m (28, 0) := by
  induction m with
  | zero => intro C; simp
  | succ m ih =>
    intro C
    rw [List.replicate_succ]
    show (List.replicate m (28, 0)).foldl fl1 (fl1 C (28, 0)) = _
    rw [fl1_op _ (by omega), ih, List.append_assoc]; rfl
theorem mem_nots {m : Nat} {y : Nat × Nat} (h : y ∈ List.replicate m ((28, 0) : Nat × Nat)) : y = (28, 0) := (List.mem_replicate.mp h).2
theorem hdl_nots {m lo : Nat} {P : Cd} (hlo : 3 < lo) (h : hdl lo P) : hdl lo (List.replicate m (28, 0) ++ P) := by
  cases m with
  | zero => exact h
  | succ m => intro x hx; injection hx with hx; rw [← hx]; show 3 < lo; exact hlo
theorem isC_nots {m : Nat} {P : Cd} (h : hdl 3 P) : isC (List.replicate m (28, 0) ++ P) = false := by
  cases m with
  | zero =>
    cases P with
    | nil => rfl
    | cons x r =>
      have := h x rfl
      show (if 20 ≤ x.1 ∧ x.1 ≤ 24 then isC r else decide (25 ≤ x.1 ∧ x.1 ≤ 27)) = false
      have : 29 ≤ x.1 := by
        unfold bnd at this
        repeat' split at this
        all_goals omega
      rw [if_neg (by omega)]
      exact decide_eq_false (by omega)
  | succ m => rfl
theorem bnd_cmp {o : Nat} (h8 : 8 ≤ o) (h10 : o ≤ 10) : bnd (o + 17) = 4 := by
  unfold bnd
  rw [if_neg (by omega), if_neg (by omega), if_neg (by omega), if_neg (by omega), if_pos (by omega)]
theorem sim_plain {q : Bool} {tk : Nat → Nat} {nt o : Nat} (he : tk nt = 9999) (hn : nt ≤ 400) {sum : Nat → Nat → Rd Ex} {rec : Option (Nat → Nat → Rd Te)} (gs : GF nt (oE q (wvF q)) sum) (hs : SimE q tk true nt 5 o sum) (h0 : rec = none → ¬ o < 8) (h1 : ∀ f, rec = some f → o < 8 ∧ SimT q tk nt 1 (o + 1) f) : SimT q tk nt 3 o (plainF q tk sum rec) := by
  intro i C P c hc hi hP hin
  have hm := nots_le he 400 i hi
  have hR := Rch_nots (q := q) (tk := tk) (C := C) (o := o) (c := c) 400 i P
  have hE : tk (i + nots tk 400 i) ≠ 2014 := by
    rcases nots_end (tk := tk) 400 i with h | h
    · exact h
    · rw [show i + nots tk 400 i = nt by omega, he]; decide
  unfold plainF
  generalize nots tk 400 i = m at hm hR hE ⊢
  generalize hN : List.replicate m ((28, 0) : Nat × Nat) = N at hR
  have hN1 : ∀ y, y ∈ N → y = (28, 0) := fun y hy => by rw [← hN] at hy; exact mem_nots hy
  have inN : inn (N ++ P) ≠ some 32 := by rw [inn_app _ _ (fun y hy => by rw [hN1 y hy]; show 28 < 31; omega)]; exact hin
  unfold plainB
  by_cases e : tk (i + m) = 40
  · rw [if_pos e]
    have hlt : i + m ≠ nt := fun z => by rw [z, he] at e; omega
    cases rec with
    | none =>
      refine ⟨fun e2 h => ?_, fun x c' i' h => (by cases h)⟩
      injection h with h
      subst h
      refine hR.tr (Rch.er ?_)
      show rPlain q tk (i + m) C (N ++ P) o c = _
      unfold rPlain
      rw [if_neg hE, if_pos e, if_neg (h0 rfl)]
    | some f =>
      obtain ⟨o8, hf⟩ := h1 f rfl
      have s1 : stp q tk true (0, (i + m, C, N ++ P, o, c)) = .inr (0, (i + m + 1, C, (31, 0) :: (N ++ P), o + 1, c)) := by
        show rPlain q tk (i + m) C (N ++ P) o c = _
        unfold rPlain
        rw [if_neg hE, if_pos e, if_pos o8]
      have hd : hdl 1 ((31, 0) :: (N ++ P)) := fun z hz => by injection hz with hz; rw [← hz]; decide
      obtain ⟨a1, a2⟩ := hf (i + m + 1) C ((31, 0) :: (N ++ P)) c hc (by omega) hd (fun z => by cases z)
      have fin : ∀ x c2 i2, f c (i + m + 1) = .inr (x, c2, i2) → ∃ C2 D2, Rch q tk true (0, (i, C, P, o, c)) (.inr (2, (i2, C2, D2 ++ (31, 0) :: (N ++ P), o + 1, c2))) ∧ stp q tk true (2, (i2, C2, D2 ++ (31, 0) :: (N ++ P), o + 1, c2)) = if tk i2 = 41 then .inr (2, (i2 + 1, C ++ x.2.1 C.length, N ++ P, o, c2)) else .inl i2 := by
        intro x c2 i2 g1
        obtain ⟨C2, D2, b1, b2, b3, b4⟩ := a2 x c2 i2 g1
        refine ⟨C2, D2, hR.tr (Rch.st s1 b3), ?_⟩
        show rTest tk i2 C2 (D2 ++ (31, 0) :: (N ++ P)) (o + 1) c2 = _
        unfold rTest
        rw [if_neg (b4.1 (by omega)), if_neg (b4.2 (by omega)), inn_app D2 _ (fun y hy => (b1 y hy).1), if_neg (show ¬ inn ((31, 0) :: (N ++ P)) = none from fun z => by cases z), stl_app D2 _ C2 (fun y hy => (b1 y hy).2) hd, b2, if_neg (show ¬ (o + 1 = 0 ∨ (31, 0) :: (N ++ P) = []) by simp)]
        rfl
      refine ⟨fun e2 h => ?_, fun x c' i' h => ?_⟩
      · rcases thn_l h with h | ⟨x, c2, i2, g1, g2⟩
        · exact hR.tr (Rch.st s1 (a1 e2 h))
        · obtain ⟨C2, D2, b3, b4⟩ := fin x c2 i2 g1
          by_cases e3 : tk i2 = 41
          · rw [if_pos e3] at g2; cases g2
          · rw [if_neg e3] at g2 b4
            injection g2 with g2
            subst g2
            exact b3.tr (Rch.er b4)
      · obtain ⟨x1, c2, i2, g1, g2⟩ := thn_r h
        obtain ⟨C2, D2, b3, b4⟩ := fin x1 c2 i2 g1
        by_cases e3 : tk i2 = 41
        · rw [if_pos e3] at g2 b4
          injection g2 with g2
          injection g2 with ha g2
          injection g2 with hb hd
          subst ha; subst hb; subst hd
          refine ⟨C ++ x1.2.1 C.length, N, fun y hy => ?_, ?_, b3.tr (Rch.st b4 (Rch.rf _)), fun h => absurd h (by omega), fun h => absurd h (by omega)⟩
          · rw [hN1 y hy]; exact ⟨by show 28 < 31; omega, by show 3 ≤ 3; omega⟩
          · rw [← hN, fold_nots, List.append_assoc]; rfl
        · rw [if_neg e3] at g2; cases g2
  · rw [if_neg e]
    have hd5 : hdl 5 (N ++ P) := by rw [← hN]; exact hdl_nots (by omega) (fun x hx => by have := hP x hx; omega)
    obtain ⟨a1, a2⟩ := hs (i + m) C (N ++ P) c hc hm hd5
    have left : ∀ x c1 i1, sum c (i + m) = .inr (x, c1, i1) → ∃ C1 D1, Rch q tk true (0, (i, C, P, o, c)) (.inr (3, (i1, C1, D1 ++ (N ++ P), o, c1))) ∧ stp q tk true (3, (i1, C1, D1 ++ (N ++ P), o, c1)) = match cmpT (tk i1) with
        | none => .inl i1
        | some op => .inr (1, (i1 + 1, C ++ x.2.1, (op + 17, 0) :: (N ++ P), o, c1)) := by
      intro x c1 i1 g1
      obtain ⟨C1, D1, b1, b2, b3, b4⟩ := a2 x c1 i1 g1
      refine ⟨C1, D1, hR.tr (Rch_01 hE e (fun z => by injection z with z; injection z with z _; cases z) b3), ?_⟩
      show rSum tk true i1 C1 (D1 ++ (N ++ P)) o c1 = _
      unfold rSum
      rw [opT_none b4]
      simp only
      rw [inn_app D1 _ (fun y hy => by have := (b1 y hy).2.1; omega), if_neg inN, if_neg (fun z => by cases z.2), isC_app D1 _ (fun y hy => ⟨(b1 y hy).1, (b1 y hy).2.1⟩), ← hN, isC_nots hP, if_neg (by decide), hN, stl_app D1 _ C1 (fun y hy => (b1 y hy).2.2) hd5, b2]
      all_goals (cases cmpT (tk i1) <;> rfl)
    have right : ∀ x c1 i1 op, sum c (i + m) = .inr (x, c1, i1) → cmpT (tk i1) = some op → c1 ≤ 50 ∧ i1 + 1 ≤ nt ∧ Rch q tk true (0, (i, C, P, o, c)) (.inr (1, (i1 + 1, C ++ x.2.1, (op + 17, 0) :: (N ++ P), o, c1))) ∧ hdl 5 ((op + 17, 0) :: (N ++ P)) := by
      intro x c1 i1 op g1 hcm
      obtain ⟨z1, z2, z3⟩ := GF_r gs hc hm g1
      obtain ⟨o1, o2, o3⟩ := cmpT_ok hcm
      have hlt : i1 ≠ nt := fun z => by rw [z, he] at o3; exact o3 rfl
      obtain ⟨C1, D1, b1, b2⟩ := left x c1 i1 g1
      rw [hcm] at b2
      exact ⟨z1, by omega, b1.tr (Rch.st b2 (Rch.rf _)), fun z hz => by injection hz with hz; rw [← hz]; show bnd (op + 17) < 5; rw [bnd_cmp o1 o2]; omega⟩
    refine ⟨fun e2 h => ?_, fun x c' i' h => ?_⟩
    · rcases thn_l h with h | ⟨x, c1, i1, g1, g2⟩
      · exact hR.tr (Rch_01 hE e (fun z => by cases z) (a1 e2 h))
      · cases hcm : cmpT (tk i1) with
        | none =>
          rw [hcm] at g2
          injection g2 with g2
          subst g2
          obtain ⟨C1, D1, b1, b2⟩ := left x c1 i1 g1
          rw [hcm] at b2
          exact b1.tr (Rch.er b2)
        | some op =>
          rw [hcm] at g2
          obtain ⟨r1, r2, r3, r4⟩ := right x c1 i1 op g1 hcm
          rcases thn_l g2 with h | ⟨y, c2, i2, g3, g4⟩
          · exact r3.tr ((hs (i1 + 1) (C ++ x.2.1) ((op + 17, 0) :: (N ++ P)) c1 r1 r2 r4).1 e2 h)
          · cases g4
    · obtain ⟨a, c1, i1, g1, g2⟩ := thn_r h
      cases hcm : cmpT (tk i1) with
      | none => rw [hcm] at g2; cases g2
      | some op =>
        rw [hcm] at g2
        obtain ⟨o1, o2, o3⟩ := cmpT_ok hcm
        obtain ⟨r1, r2, r3, r4⟩ := right a c1 i1 op g1 hcm
        obtain ⟨b, c2, i2, g3, g4⟩ := thn_r g2
        obtain ⟨C2, D2, b1, b2, b3, b4⟩ := (hs (i1 + 1) (C ++ a.2.1) ((op + 17, 0) :: (N ++ P)) c1 r1 r2 r4).2 b c2 i2 g3
        injection g4 with g4
        injection g4 with ha g4
        injection g4 with hb hd
        subst ha; subst hb; subst hd
        have s2 : stp q tk true (3, (i2, C2, D2 ++ (op + 17, 0) :: (N ++ P), o, c2)) = .inr (2, (i2, C2, D2 ++ (op + 17, 0) :: (N ++ P), o, c2)) := by
          show rSum tk true i2 C2 (D2 ++ (op + 17, 0) :: (N ++ P)) o c2 = _
          unfold rSum
          rw [opT_none b4]
          simp only
          have i1' : inn ((op + 17, 0) :: (N ++ P)) = inn (N ++ P) := inn_app [(op + 17, 0)] (N ++ P) (fun y hy => by rw [List.mem_singleton.mp hy]; show op + 17 < 31; omega)
          have c1' : isC ((op + 17, 0) :: (N ++ P)) = true := by
            show (if 20 ≤ op + 17 ∧ op + 17 ≤ 24 then isC (N ++ P) else decide (25 ≤ op + 17 ∧ op + 17 ≤ 27)) = true
            rw [if_neg (by omega)]
            exact decide_eq_true (by omega)
          rw [inn_app D2 _ (fun y hy => by have := (b1 y hy).2.1; omega), i1', if_neg inN, if_neg (fun z => by cases z.2), isC_app D2 _ (fun y hy => ⟨(b1 y hy).1, (b1 y hy).2.1⟩), c1', if_pos rfl]
        refine ⟨C2, D2 ++ (op + 17, 0) :: N, fun y hy => ?_, ?_, ?_, fun h => absurd h (by omega), fun h => absurd h (by omega)⟩
        · rcases List.mem_append.mp hy with hy | hy
          · obtain ⟨u1, u2, u3⟩ := b1 y hy; exact ⟨by omega, by omega⟩
          · rcases List.mem_cons.mp hy with hy | hy
            · rw [hy]; exact ⟨by show op + 17 < 31; omega, by show 3 ≤ bnd (op + 17); rw [bnd_cmp o1 o2]; omega⟩
            · rw [hN1 y hy]; exact ⟨by show 28 < 31; omega, by show 3 ≤ 3; omega⟩
        · rw [List.foldl_append, b2]
          show N.foldl fl1 (fl1 (C ++ a.2.1 ++ b.2.1) (op + 17, 0)) = _
          rw [fl1_op _ (by omega), ← hN, fold_nots]
          show _ = C ++ (a.2.1 ++ (b.2.1 ++ [(op + 17, 0)]) ++ List.replicate m (28, 0))
          simp only [List.append_assoc]
        · rw [List.append_assoc]
          exact r3.tr (b3.tr (Rch.st s2 (Rch.rf _)))
theorem sim_testF {q : Bool} {tk : Nat → Nat} {nt o : Nat} (he : tk nt = 9999) (hn : nt ≤ 400) {sum : Nat → Nat → Rd Ex} {rec : Option (Nat → Nat → Rd Te)} (gs : GF nt (oE q (wvF q)) sum) (hs : SimE q tk true nt 5 o sum) (hr : ∀ f, rec = some f → GF nt (oT q (wvF q)) f) (h0 : rec = none → ¬ o < 8) (h1 : ∀ f, rec = some f → o < 8 ∧ SimT q tk nt 1 (o + 1) f) : SimT q tk nt 1 o (testF q tk sum rec) := by
  have gp := GF_plain he gs hr
  have gb : GF nt (oT q (wvF q)) (rowF andT (fun _ => tCon) tk (plainF q tk sum rec)) := GF_row he (by decide) (fun o t x y L1 L2 n1 n2 ho hx hy => oT_jmp true hx hy) gp
  refine sim_rowT (om := 30) (ws := 2012) he hn (fun t op h => (orT_ok h).1) (fun t h hx => ⟨fun _ => hx.1 (by omega), fun _ e => by rw [e] at h; cases h⟩) (by decide) (fun i C P c o h => ?_) (Or.inr rfl) rfl (fun _ _ _ => rfl) gb (sim_rowT (om := 29) (ws := 2013) he hn (fun t op h => (andT_ok h).1) (fun t h hx => ⟨fun _ e => by (rw [e] at h; cases h), fun z => absurd z (by omega)⟩) (by decide) (fun i C P c o h => ?_) (Or.inl rfl) rfl (fun _ _ _ => rfl) gp (sim_plain he hn gs hs h0 h1))
  · unfold rTest; rw [if_neg (by omega), if_pos h]
  · unfold rTest; rw [if_pos h]
theorem sim_test {q : Bool} {tk : Nat → Nat} {nt : Nat} (he : tk nt = 9999) (hn : nt ≤ 400) : ∀ b, b ≤ 8 → SimT q tk nt 1 (8 - b) (pTest q tk b) := by
  intro b
  induction b with
  | zero => intro _; exact sim_testF he hn (GF_sum he (wvF_ok q) 0) (sim_sum he hn 0 (by omega)) (fun f h => by cases h) (fun _ => by omega) (fun f h => by cases h)
  | succ b ih =>
    intro hb
    refine sim_testF he hn (GF_sum he (wvF_ok q) (b + 1)) (sim_sum he hn (b + 1) hb) (fun f h => by injection h with h; rw [← h]; exact GF_test he (wvF_ok q) b) (fun h => by cases h) (fun f h => by
      injection h with h
      rw [← h, show 8 - (b + 1) + 1 = 8 - b by omega]
      exact ⟨by omega, ih (by omega)⟩)
