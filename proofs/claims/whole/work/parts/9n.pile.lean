/-! the reference's reading with a pile -/
abbrev Sp : Type := Nat × Cd × Cd × Nat × Nat
def bnd (o : Nat) : Nat := if 31 ≤ o then 0 else if o = 30 then 1 else if o = 29 then 2 else if o = 28 then 3 else if 25 ≤ o then 4 else if 22 ≤ o then 6 else 5
/-- one is taken off the pile: a jump is aimed, another operation goes into the code -/
def fl1 (C : Cd) (x : Nat × Nat) : Cd := if x.1 = 29 ∨ x.1 = 30 then C.set x.2 ((C.getD x.2 (0, 0)).1, C.length) else C ++ [(x.1, 0)]
def stl (m : Nat) : Cd → Cd → Cd × Cd
  | [], C => (C, [])
  | x :: r, C => if m ≤ bnd x.1 then stl m r (fl1 C x) else (C, x :: r)
def hdl (m : Nat) (P : Cd) : Prop := ∀ x, P.head? = some x → bnd x.1 < m
theorem stl_app {m : Nat} : ∀ (D P C : Cd), (∀ x, x ∈ D → m ≤ bnd x.1) → hdl m P → stl m (D ++ P) C = (D.foldl fl1 C, P) := by
  intro D
  induction D with
  | nil =>
    intro P C _ hP
    cases P with
    | nil => rfl
    | cons x r =>
      show (if m ≤ bnd x.1 then stl m r (fl1 C x) else (C, x :: r)) = _
      rw [if_neg (by have := hP x rfl; omega)]; rfl
  | cons y D ih =>
    intro P C hD hP
    show (if m ≤ bnd y.1 then stl m (D ++ P) (fl1 C y) else (C, y :: (D ++ P))) = _
    rw [if_pos (hD y (by simp)), ih P (fl1 C y) (fun x hx => hD x (by simp [hx])) hP]
    rfl
def opT (t : Nat) : Option Nat := match addT t with
  | some o => some o
  | none => mulT t
def inn (P : Cd) : Option Nat := (P.find? (fun x => decide (31 ≤ x.1))).map (fun x => x.1)
def isC : Cd → Bool
  | [] => false
  | x :: r => if 20 ≤ x.1 ∧ x.1 ≤ 24 then isC r else decide (25 ≤ x.1 ∧ x.1 ≤ 27)
theorem inn_app : ∀ (D P : Cd), (∀ x, x ∈ D → x.1 < 31) → inn (D ++ P) = inn P := by
  intro D
  induction D with
  | nil => intro P _; rfl
  | cons y D ih =>
    intro P h
    rw [← ih P (fun x hx => h x (by simp [hx]))]
    unfold inn
    rw [List.cons_append, List.find?_cons_of_neg]
    have := h y (by simp)
    simp; omega
theorem isC_app : ∀ (D P : Cd), (∀ x, x ∈ D → 20 ≤ x.1 ∧ x.1 ≤ 24) → isC (D ++ P) = isC P := by
  intro D
  induction D with
  | nil => intro P _; rfl
  | cons y D ih =>
    intro P h
    rw [← ih P (fun x hx => h x (by simp [hx]))]
    show (if 20 ≤ y.1 ∧ y.1 ≤ 24 then isC (D ++ P) else _) = _
    rw [if_pos (h y (by simp))]
def rPart (q : Bool) (tk : Nat → Nat) (i : Nat) (C P : Cd) (o c : Nat) : Nat ⊕ (Nat × Sp) :=
  if tk i = 91 then (if o < 8 then .inr (1, (i + 1, C, (32, 0) :: P, o + 1, c)) else .inl i) else match pLeaf q tk c i with
    | .inl e => .inl e
    | .inr r => .inr (3, (r.2.2, C ++ r.1.2.1, P, o, r.2.1))
def rPlain (q : Bool) (tk : Nat → Nat) (i : Nat) (C P : Cd) (o c : Nat) : Nat ⊕ (Nat × Sp) :=
  if tk i = 2014 then .inr (0, (i + 1, C, (28, 0) :: P, o, c)) else if tk i = 40 then (if o < 8 then .inr (0, (i + 1, C, (31, 0) :: P, o + 1, c)) else .inl i) else rPart q tk i C P o c
def rSum (tk : Nat → Nat) (test : Bool) (i : Nat) (C P : Cd) (o c : Nat) : Nat ⊕ (Nat × Sp) := match opT (tk i) with
  | some op => .inr (1, (i + 1, (stl (bnd (op + 17)) P C).1, (op + 17, 0) :: (stl (bnd (op + 17)) P C).2, o, c))
  | none => if inn P = some 32 then (if tk i = 93 then (if o = 0 ∨ (stl 5 P C).2 = [] then .inl 99999 else .inr (3, (i + 1, (stl 5 P C).1, (stl 5 P C).2.tail, o - 1, c))) else .inl i)
    else if inn P = none ∧ test = false then .inr (4, (i, C, P, o, c)) else if isC P = true then .inr (2, (i, C, P, o, c)) else match cmpT (tk i) with
      | none => .inl i
      | some op => .inr (1, (i + 1, (stl 5 P C).1, (op + 17, 0) :: (stl 5 P C).2, o, c))
def rTest (tk : Nat → Nat) (i : Nat) (C P : Cd) (o c : Nat) : Nat ⊕ (Nat × Sp) :=
  if tk i = 2013 then .inr (0, (i + 1, (stl 2 P C).1 ++ [(29, 0)], (29, (stl 2 P C).1.length) :: (stl 2 P C).2, o, c))
  else if tk i = 2012 then .inr (0, (i + 1, (stl 1 P C).1 ++ [(30, 0)], (30, (stl 1 P C).1.length) :: (stl 1 P C).2, o, c))
  else if inn P = none then .inr (4, (i, C, P, o, c)) else if tk i = 41 then (if o = 0 ∨ (stl 1 P C).2 = [] then .inl 99999 else .inr (2, (i + 1, (stl 1 P C).1, (stl 1 P C).2.tail, o - 1, c))) else .inl i
def stp (q : Bool) (tk : Nat → Nat) (test : Bool) (x : Nat × Sp) : Nat ⊕ (Nat × Sp) :=
  if x.1 = 0 then rPlain q tk x.2.1 x.2.2.1 x.2.2.2.1 x.2.2.2.2.1 x.2.2.2.2.2 else if x.1 = 1 then rPart q tk x.2.1 x.2.2.1 x.2.2.2.1 x.2.2.2.2.1 x.2.2.2.2.2
  else if x.1 = 3 then rSum tk test x.2.1 x.2.2.1 x.2.2.2.1 x.2.2.2.2.1 x.2.2.2.2.2 else if x.1 = 2 then rTest tk x.2.1 x.2.2.1 x.2.2.2.1 x.2.2.2.2.1 x.2.2.2.2.2 else .inr x
def goR (q : Bool) (tk : Nat → Nat) (test : Bool) : Nat → (Nat × Sp) → Nat ⊕ (Nat × Sp)
  | 0, x => .inr x
  | n + 1, x => match stp q tk test x with
    | .inl e => .inl e
    | .inr y => goR q tk test n y
def Rch (q : Bool) (tk : Nat → Nat) (test : Bool) (x : Nat × Sp) (r : Nat ⊕ (Nat × Sp)) : Prop := ∃ n, goR q tk test n x = r
theorem Rch.rf {q : Bool} {tk : Nat → Nat} {test : Bool} (x : Nat × Sp) : Rch q tk test x (.inr x) := ⟨0, rfl⟩
theorem Rch.st {q : Bool} {tk : Nat → Nat} {test : Bool} {x y : Nat × Sp} {r : Nat ⊕ (Nat × Sp)} (h : stp q tk test x = .inr y) (h2 : Rch q tk test y r) : Rch q tk test x r := by
  obtain ⟨n, h2⟩ := h2
  refine ⟨n + 1, ?_⟩
  unfold goR
  rw [h]; exact h2
theorem Rch.er {q : Bool} {tk : Nat → Nat} {test : Bool} {x : Nat × Sp} {e : Nat} (h : stp q tk test x = .inl e) : Rch q tk test x (.inl e) := by
  refine ⟨1, ?_⟩
  unfold goR
  rw [h]
theorem goR_s {q : Bool} {tk : Nat → Nat} {test : Bool} (n : Nat) (x : Nat × Sp) : goR q tk test (n + 1) x = (match stp q tk test x with
    | .inl e => .inl e
    | .inr y => goR q tk test n y) := rfl
theorem goR_add {q : Bool} {tk : Nat → Nat} {test : Bool} : ∀ (n m : Nat) (x y : Nat × Sp), goR q tk test n x = .inr y → goR q tk test (n + m) x = goR q tk test m y := by
  intro n
  induction n with
  | zero => intro m x y h; injection h with h; rw [h, Nat.zero_add]
  | succ n ih =>
    intro m x y h
    rw [show n + 1 + m = (n + m) + 1 by omega, goR_s]
    rw [goR_s] at h
    cases hs : stp q tk test x with
    | inl e => rw [hs] at h; cases h
    | inr z => rw [hs] at h; exact ih m z y h
theorem Rch.tr {q : Bool} {tk : Nat → Nat} {test : Bool} {x y : Nat × Sp} {r : Nat ⊕ (Nat × Sp)} (h : Rch q tk test x (.inr y)) (h2 : Rch q tk test y r) : Rch q tk test x r := by
  obtain ⟨n, h⟩ := h
  obtain ⟨m, h2⟩ := h2
  exact ⟨n + m, by rw [goR_add n m x y h]; exact h2⟩
/-! it reads as the other way does -/
def wvF (q : Bool) : Wv := fun w o a => if q = true then (w (if o < 4 then o - 1 else if o = 4 then 3 + a else if o = 5 then 9 + a else if o = 6 then 15 + a else 19 + a)).toInt64 else (w (o - 1)).toInt64
theorem wvF_k : ∀ k, k < 23 → (if (mwO k).1 < 4 then (mwO k).1 - 1 else if (mwO k).1 = 4 then 3 + (mwO k).2 else if (mwO k).1 = 5 then 9 + (mwO k).2 else if (mwO k).1 = 6 then 15 + (mwO k).2 else 19 + (mwO k).2) = k := by decide
theorem wvF_ok (q : Bool) : wvOK q (wvF q) := by
  intro k hk w
  cases q with
  | true =>
    show (w (if (mwO k).1 < 4 then (mwO k).1 - 1 else if (mwO k).1 = 4 then 3 + (mwO k).2 else if (mwO k).1 = 5 then 9 + (mwO k).2 else if (mwO k).1 = 6 then 15 + (mwO k).2 else 19 + (mwO k).2)).toInt64 = _
    rw [wvF_k k hk]
  | false => rfl
def nx (lo t : Nat) : Prop := (lo ≤ 6 → mulT t = none) ∧ (lo ≤ 5 → addT t = none)
def SimE (q : Bool) (tk : Nat → Nat) (test : Bool) (nt lo o : Nat) (it : Nat → Nat → Rd Ex) : Prop := ∀ (i : Nat) (C P : Cd) (c : Nat), c ≤ 50 → i ≤ nt → hdl lo P → (∀ e, it c i = .inl e → Rch q tk test (1, (i, C, P, o, c)) (.inl e)) ∧ ∀ x c' i', it c i = .inr (x, c', i') → ∃ C' D, (∀ y, y ∈ D → 20 ≤ y.1 ∧ y.1 ≤ 24 ∧ lo ≤ bnd y.1) ∧ D.foldl fl1 C' = C ++ x.2.1 ∧ Rch q tk test (1, (i, C, P, o, c)) (.inr (3, (i', C', D ++ P, o, c'))) ∧ nx lo (tk i')
theorem bnd_op {o : Nat} (h3 : 3 ≤ o) (h7 : o ≤ 7) : bnd (o + 17) = (if 5 ≤ o then 6 else 5) := by
  unfold bnd
  rw [if_neg (by omega), if_neg (by omega), if_neg (by omega), if_neg (by omega), if_neg (by omega)]
  by_cases h : 5 ≤ o
  · rw [if_pos h, if_pos (by omega)]
  · rw [if_neg h, if_neg (by omega)]
theorem fl1_op (C : Cd) {o : Nat} (h : o < 29) : fl1 C (o, 0) = C ++ [(o, 0)] := by
  unfold fl1
  rw [if_neg (show ¬ (o = 29 ∨ o = 30) by omega)]
theorem thn_l {α β : Type} {r : Rd α} {f : α → Nat → Nat → Rd β} {e : Nat} (h : thn r f = .inl e) : r = .inl e ∨ ∃ x c i, r = .inr (x, c, i) ∧ f x c i = .inl e := by
  cases r with
  | inl e2 => injection h with h; rw [h]; exact Or.inl rfl
  | inr x => exact Or.inr ⟨x.1, x.2.1, x.2.2, rfl, h⟩
theorem thn_r {α β : Type} {r : Rd α} {f : α → Nat → Nat → Rd β} {z : β × Nat × Nat} (h : thn r f = .inr z) : ∃ x c i, r = .inr (x, c, i) ∧ f x c i = .inr z := by
  cases r with
  | inl e2 => cases h
  | inr x => exact ⟨x.1, x.2.1, x.2.2, rfl, h⟩
theorem GF_r {α : Type} {nt : Nat} {ok : Nat → Nat → α → Prop} {f : Nat → Nat → Rd α} (h : GF nt ok f) {c i : Nat} (hc : c ≤ 50) (hi : i ≤ nt) {x : α} {c' i' : Nat} (e : f c i = .inr (x, c', i')) : c' ≤ 50 ∧ i < i' ∧ i' ≤ nt := by
  have := h c i hc hi
  rw [e] at this
  obtain ⟨L, n, h1, h2, h3, h4, h5, h6⟩ := this
  exact ⟨h3, h5, h6⟩
theorem sim_row {q : Bool} {tk : Nat → Nat} {test : Bool} {nt lo o : Nat} {sg : Nat → Option Nat} {it : Nat → Nat → Rd Ex} (he : tk nt = 9999) (hn : nt ≤ 400) (h9 : sg 9999 = none) (hs : ∀ t op, sg t = some op → opT t = some op ∧ 3 ≤ op ∧ op ≤ 7 ∧ bnd (op + 17) = lo) (hx : ∀ t, sg t = none → nx (lo + 1) t → nx lo t) (hg : GF nt (oE q (wvF q)) it) (hi : SimE q tk test nt (lo + 1) o it) : SimE q tk test nt lo o (rowF sg eBin tk it) := by
  intro i C P c hc hi2 hP
  have loop : ∀ (k : Nat) (x : Ex) (c1 i1 : Nat) (C1 D : Cd), c1 ≤ 50 → i1 ≤ nt → 401 ≤ i1 + k → (∀ y, y ∈ D → 20 ≤ y.1 ∧ y.1 ≤ 24 ∧ lo ≤ bnd y.1) → D.foldl fl1 C1 = C ++ x.2.1 → nx (lo + 1) (tk i1) → (∀ e, rowL sg eBin tk it k x c1 i1 = .inl e → Rch q tk test (3, (i1, C1, D ++ P, o, c1)) (.inl e)) ∧ ∀ x' c' i', rowL sg eBin tk it k x c1 i1 = .inr (x', c', i') → ∃ C' D', (∀ y, y ∈ D' → 20 ≤ y.1 ∧ y.1 ≤ 24 ∧ lo ≤ bnd y.1) ∧ D'.foldl fl1 C' = C ++ x'.2.1 ∧ Rch q tk test (3, (i1, C1, D ++ P, o, c1)) (.inr (3, (i', C', D' ++ P, o, c'))) ∧ nx lo (tk i') := by
    intro k
    induction k with
    | zero => intro x c1 i1 C1 D h1 h2 h3 h4 h5 h6; omega
    | succ k ih =>
      intro x c1 i1 C1 D h1 h2 h3 h4 h5 h6
      unfold rowL
      cases hsg : sg (tk i1) with
      | none =>
        refine ⟨fun e h => (by cases h), fun x' c' i' h => ?_⟩
        injection h with h
        injection h with ha h
        injection h with hb hd
        subst ha; subst hb; subst hd
        exact ⟨C1, D, h4, h5, Rch.rf _, hx _ hsg h6⟩
      | some op =>
        obtain ⟨p1, p2, p3, p4⟩ := hs _ _ hsg
        have hlt : i1 ≠ nt := fun z => by rw [z, he, h9] at hsg; cases hsg
        have s1 : stp q tk test (3, (i1, C1, D ++ P, o, c1)) = .inr (1, (i1 + 1, C ++ x.2.1, (op + 17, 0) :: P, o, c1)) := by
          show rSum tk test i1 C1 (D ++ P) o c1 = _
          unfold rSum
          rw [p1]
          simp only
          rw [p4, stl_app D P C1 (fun y hy => (h4 y hy).2.2) hP, h5]
        obtain ⟨a1, a2⟩ := hi (i1 + 1) (C ++ x.2.1) ((op + 17, 0) :: P) c1 h1 (by omega) (fun z hz => by injection hz with hz; rw [← hz, p4]; omega)
        simp only
        refine ⟨fun e h => ?_, fun x' c' i' h => ?_⟩
        · rcases thn_l h with h | ⟨y, c2, i2, g1, g2⟩
          · exact Rch.st s1 (a1 e h)
          · obtain ⟨C2, D2, b1, b2, b3, b4⟩ := a2 y c2 i2 g1
            obtain ⟨z1, z2, z3⟩ := GF_r hg h1 (by omega) g1
            have := (ih (eBin op x y) c2 i2 C2 (D2 ++ [(op + 17, 0)]) z1 z3 (by omega) (fun w hw => by
              rcases List.mem_append.mp hw with hw | hw
              · obtain ⟨u1, u2, u3⟩ := b1 w hw; exact ⟨u1, u2, by omega⟩
              · rw [List.mem_singleton.mp hw]; exact ⟨by show 20 ≤ op + 17; omega, by show op + 17 ≤ 24; omega, by show lo ≤ bnd (op + 17); omega⟩) (by
              rw [List.foldl_append, b2]
              show fl1 _ (op + 17, 0) = _
              rw [fl1_op _ (by omega), List.append_assoc, List.append_assoc]; rfl) b4).1 e g2
            rw [List.append_assoc] at this
            exact Rch.st s1 (b3.tr this)
        · obtain ⟨y, c2, i2, g1, g2⟩ := thn_r h
          obtain ⟨C2, D2, b1, b2, b3, b4⟩ := a2 y c2 i2 g1
          obtain ⟨z1, z2, z3⟩ := GF_r hg h1 (by omega) g1
          obtain ⟨C3, D3, d1, d2, d3, d4⟩ := (ih (eBin op x y) c2 i2 C2 (D2 ++ [(op + 17, 0)]) z1 z3 (by omega) (fun w hw => by
            rcases List.mem_append.mp hw with hw | hw
            · obtain ⟨u1, u2, u3⟩ := b1 w hw; exact ⟨u1, u2, by omega⟩
            · rw [List.mem_singleton.mp hw]; exact ⟨by show 20 ≤ op + 17; omega, by show op + 17 ≤ 24; omega, by show lo ≤ bnd (op + 17); omega⟩) (by
            rw [List.foldl_append, b2]
            show fl1 _ (op + 17, 0) = _
            rw [fl1_op _ (by omega), List.append_assoc, List.append_assoc]; rfl) b4).2 x' c' i' g2
          rw [List.append_assoc] at d3
          exact ⟨C3, D3, d1, d2, Rch.st s1 (b3.tr d3), d4⟩
  obtain ⟨a1, a2⟩ := hi i C P c hc hi2 (fun x hx => by have := hP x hx; omega)
  unfold rowF
  refine ⟨fun e h => ?_, fun x' c' i' h => ?_⟩
  · rcases thn_l h with h | ⟨y, c2, i2, g1, g2⟩
    · exact a1 e h
    · obtain ⟨C2, D2, b1, b2, b3, b4⟩ := a2 y c2 i2 g1
      obtain ⟨z1, z2, z3⟩ := GF_r hg hc hi2 g1
      exact b3.tr ((loop 400 y c2 i2 C2 D2 z1 z3 (by omega) (fun w hw => by obtain ⟨u1, u2, u3⟩ := b1 w hw; exact ⟨u1, u2, by omega⟩) b2 b4).1 e g2)
  · obtain ⟨y, c2, i2, g1, g2⟩ := thn_r h
    obtain ⟨C2, D2, b1, b2, b3, b4⟩ := a2 y c2 i2 g1
    obtain ⟨z1, z2, z3⟩ := GF_r hg hc hi2 g1
    obtain ⟨C3, D3, d1, d2, d3, d4⟩ := (loop 400 y c2 i2 C2 D2 z1 z3 (by omega) (fun w hw => by obtain ⟨u1, u2, u3⟩ := b1 w hw; exact ⟨u1, u2, by omega⟩) b2 b4).2 x' c' i' g2
    exact ⟨C3, D3, d1, d2, b3.tr d3, d4⟩
theorem opT_none {t : Nat} (h : nx 5 t) : opT t = none := by
  unfold opT
  rw [h.2 (by omega)]
  exact h.1 (by omega)
theorem sim_part {q : Bool} {tk : Nat → Nat} {test : Bool} {nt o : Nat} (he : tk nt = 9999) {rec : Option (Nat → Nat → Rd Ex)} (h0 : rec = none → ¬ o < 8) (h1 : ∀ f, rec = some f → o < 8 ∧ SimE q tk test nt 5 (o + 1) f) : SimE q tk test nt 7 o (partF q tk rec) := by
  intro i C P c hc hi hP
  unfold partF
  by_cases e : tk i = 91
  · rw [if_pos e]
    have hlt : i ≠ nt := fun z => by rw [z, he] at e; omega
    cases rec with
    | none =>
      refine ⟨fun e2 h => ?_, fun x c' i' h => (by cases h)⟩
      injection h with h
      subst h
      refine Rch.er ?_
      show rPart q tk i C P o c = _
      unfold rPart
      rw [if_pos e, if_neg (h0 rfl)]
    | some f =>
      obtain ⟨o8, hf⟩ := h1 f rfl
      have s1 : stp q tk test (1, (i, C, P, o, c)) = .inr (1, (i + 1, C, (32, 0) :: P, o + 1, c)) := by
        show rPart q tk i C P o c = _
        unfold rPart
        rw [if_pos e, if_pos o8]
      have hd : hdl 5 ((32, 0) :: P) := fun z hz => by injection hz with hz; rw [← hz]; decide
      obtain ⟨a1, a2⟩ := hf (i + 1) C ((32, 0) :: P) c hc (by omega) hd
      have fin : ∀ x c2 i2, f c (i + 1) = .inr (x, c2, i2) → ∃ C2 D2, (∀ y, y ∈ D2 → 20 ≤ y.1 ∧ y.1 ≤ 24 ∧ 5 ≤ bnd y.1) ∧ D2.foldl fl1 C2 = C ++ x.2.1 ∧ Rch q tk test (1, (i, C, P, o, c)) (.inr (3, (i2, C2, D2 ++ (32, 0) :: P, o + 1, c2))) ∧ stp q tk test (3, (i2, C2, D2 ++ (32, 0) :: P, o + 1, c2)) = if tk i2 = 93 then .inr (3, (i2 + 1, C ++ x.2.1, P, o, c2)) else .inl i2 := by
        intro x c2 i2 g1
        obtain ⟨C2, D2, b1, b2, b3, b4⟩ := a2 x c2 i2 g1
        refine ⟨C2, D2, b1, b2, Rch.st s1 b3, ?_⟩
        show rSum tk test i2 C2 (D2 ++ (32, 0) :: P) (o + 1) c2 = _
        unfold rSum
        rw [opT_none b4]
        simp only
        rw [inn_app D2 _ (fun y hy => by have := (b1 y hy).2.1; omega), if_pos (show inn ((32, 0) :: P) = some 32 from rfl), stl_app D2 _ C2 (fun y hy => (b1 y hy).2.2) hd, b2, if_neg (show ¬ (o + 1 = 0 ∨ (32, 0) :: P = []) by simp)]
        rfl
      refine ⟨fun e2 h => ?_, fun x c' i' h => ?_⟩
      · rcases thn_l h with h | ⟨x, c2, i2, g1, g2⟩
        · exact Rch.st s1 (a1 e2 h)
        · obtain ⟨C2, D2, b1, b2, b3, b4⟩ := fin x c2 i2 g1
          by_cases e3 : tk i2 = 93
          · rw [if_pos e3] at g2; cases g2
          · rw [if_neg e3] at g2 b4
            injection g2 with g2
            subst g2
            exact b3.tr (Rch.er b4)
      · obtain ⟨x1, c2, i2, g1, g2⟩ := thn_r h
        obtain ⟨C2, D2, b1, b2, b3, b4⟩ := fin x1 c2 i2 g1
        by_cases e3 : tk i2 = 93
        · rw [if_pos e3] at g2 b4
          injection g2 with g2
          injection g2 with ha g2
          injection g2 with hb hd
          subst ha; subst hb; subst hd
          exact ⟨C ++ x1.2.1, [], fun y hy => (by cases hy), rfl, b3.tr (Rch.st b4 (Rch.rf _)), fun h => absurd h (by omega), fun h => absurd h (by omega)⟩
        · rw [if_neg e3] at g2; cases g2
  · rw [if_neg e]
    have s1 : stp q tk test (1, (i, C, P, o, c)) = match pLeaf q tk c i with
      | .inl e => .inl e
      | .inr r => .inr (3, (r.2.2, C ++ r.1.2.1, P, o, r.2.1)) := by
      show rPart q tk i C P o c = _
      unfold rPart
      rw [if_neg e]
    refine ⟨fun e2 h => ?_, fun x c' i' h => ?_⟩
    · rw [h] at s1; exact Rch.er s1
    · rw [h] at s1
      exact ⟨C ++ x.2.1, [], fun y hy => (by cases hy), rfl, Rch.st s1 (Rch.rf _), fun h => absurd h (by omega), fun h => absurd h (by omega)⟩
theorem sim_sumF {q : Bool} {tk : Nat → Nat} {test : Bool} {nt o : Nat} (he : tk nt = 9999) (hn : nt ≤ 400) {rec : Option (Nat → Nat → Rd Ex)} (hr : ∀ f, rec = some f → GF nt (oE q (wvF q)) f) (h0 : rec = none → ¬ o < 8) (h1 : ∀ f, rec = some f → o < 8 ∧ SimE q tk test nt 5 (o + 1) f) : SimE q tk test nt 5 o (sumF q tk rec) := by
  have gp := GF_part he (wvF_ok q) hr
  have gt : GF nt (oE q (wvF q)) (rowF mulT eBin tk (partF q tk rec)) := GF_row he (by decide) (fun o t x y L1 L2 n1 n2 ho hx hy => oE_bin hx hy (by have := mulT_ok ho; omega) (by have := mulT_ok ho; omega)) gp
  refine sim_row he hn (by decide) (fun t op h => ?_) (fun t h hx => ⟨fun _ => hx.1 (by omega), fun _ => h⟩) gt (sim_row he hn (by decide) (fun t op h => ?_) (fun t h hx => ⟨fun _ => h, fun z => absurd z (by omega)⟩) gp (sim_part he h0 h1))
  · have := addT_ok h
    refine ⟨by unfold opT; rw [h], by omega, by omega, ?_⟩
    rw [bnd_op (by omega) (by omega), if_neg (by omega)]
  · have := mulT_ok h
    refine ⟨?_, by omega, by omega, ?_⟩
    · unfold opT
      cases ha : addT t with
      | none => exact h
      | some z =>
        exfalso
        unfold addT at ha
        unfold mulT at h
        repeat' split at ha
        all_goals first
          | (subst t; simp at h)
          | cases ha
    · rw [bnd_op (by omega) (by omega), if_pos (by omega)]
theorem sim_sum {q : Bool} {tk : Nat → Nat} {test : Bool} {nt : Nat} (he : tk nt = 9999) (hn : nt ≤ 400) : ∀ b, b ≤ 8 → SimE q tk test nt 5 (8 - b) (pSum q tk b) := by
  intro b
  induction b with
  | zero => intro _; exact sim_sumF he hn (fun f h => by cases h) (fun _ => by omega) (fun f h => by cases h)
  | succ b ih =>
    intro hb
    refine sim_sumF he hn (fun f h => by injection h with h; rw [← h]; exact GF_sum he (wvF_ok q) b) (fun h => by cases h) (fun f h => by
      injection h with h
      rw [← h, show 8 - (b + 1) + 1 = 8 - b by omega]
      exact ⟨by omega, ih (by omega)⟩)
