/-! sums and tests: what the class's stack machine reckons -/
/-- within a thousand millions -/
def cap9 (x : Int64) : Option Int64 := if x < lN 18446744072709551616 then none else if lN 1000000000 < x then none else some x
/-- two values joined; o the operation's number -/
def joi (o : Int) (x y : Int64) : Option Int64 :=
  if o = 3 then cap9 (x + y) else if o = 4 then cap9 (x - y) else if o = 5 then cap9 (x * y)
  else if o = 6 then (if y = 0 then none else cap9 (x / y)) else if o = 7 then (if y = 0 then none else cap9 (x - x / y * y))
  else if o = 8 then cap9 (if x < y then lN 1 else lN 0) else if o = 9 then cap9 (if y < x then lN 1 else lN 0) else if o = 10 then cap9 (if x = y then lN 1 else lN 0) else none
/-- a stack in a row of longs -/
def stk (f : Nat → Int64) : List Int64 → Prop
  | [] => True
  | v :: r => f r.length = v ∧ stk f r
theorem stk_pu {f : Nat → Int64} {v : Int64} : ∀ {st : List Int64} {k : Nat}, stk f st → st.length ≤ k → stk (pu f k v) st := by
  intro st
  induction st with
  | nil => intro k _ _; trivial
  | cons x r ih =>
    intro k h hk
    simp only [List.length_cons] at hk
    exact ⟨by rw [pu_n _ _ _ (by omega)]; exact h.1, ih h.2 (by omega)⟩
theorem stk_push {f : Nat → Int64} {v : Int64} {st : List Int64} (h : stk f st) : stk (pu f st.length v) (v :: st) := ⟨pu_s _ _ _, stk_pu h (Nat.le_refl _)⟩
/-- the two topmost joined -/
def jst (o : Int) (st : List Int64) : Option (List Int64) := match st with
  | y :: x :: q => (joi o x y).map (fun z => z :: q)
  | _ => none
/-- a code run; sz its length, w the words, nw their number -/
def ev (cd : Nat → Nat × Nat) (sz : Nat) (w : Nat → Int32) (nw : Nat) : Nat → Nat → List Int64 → Option Int64
  | 0, _, _ => none
  | n + 1, i, st =>
    if i < sz then
      (if (cd i).1 = 0 then (if st.length = 1 then st.head? else none)
      else if (cd i).1 = 1 then (if st.length < 64 then ev cd sz w nw n (i + 1) ((nI (cd i).2).toInt64 :: st) else none)
      else if (cd i).1 = 2 then (if (cd i).2 < nw then (if st.length < 64 then ev cd sz w nw n (i + 1) ((w (cd i).2).toInt64 :: st) else none) else none)
      else if (cd i).1 = 11 then (match st with
        | [] => none
        | y :: r => ev cd sz w nw n (i + 1) ((lN 1 - y) :: r))
      else if (cd i).1 = 12 then (match st with
        | [] => none
        | y :: r => if y = lN 0 then ev cd sz w nw n (i + 1) r else ev cd sz w nw n (cd i).2 (y :: r))
      else if (cd i).1 = 13 then (match st with
        | [] => none
        | y :: r => if y = lN 0 then ev cd sz w nw n (cd i).2 (y :: r) else ev cd sz w nw n (i + 1) r)
      else match jst (cd i).1 st with
        | some q => ev cd sz w nw n (i + 1) q
        | none => none)
    else none
/-- a program of the class: its code -/
def progc (S : List XC) (iv : Nat → Nat → Int32) (a : Nat) (cd : Nat → Nat × Nat) (sz : Nat) : Prop :=
  ∃ c N rs, S[a]? = some (5, 4, some c :: rs) ∧ S[c]? = some (50, N, []) ∧ c < 1000000 ∧ iv a 2 = nI sz ∧ sz ≤ N ∧ ∀ i, i < sz → iv c i = nI ((cd i).2 * 16 + (cd i).1) ∧ (cd i).1 < 16 ∧ (cd i).2 < 1000000
theorem progc_top {im lw : List (Option Nat)} {tl : List XC} {iv : Nat → Nat → Int32} {a : Nat} {cd : Nat → Nat × Nat} {sz : Nat} (h : progc (SS im lw tl) iv a cd sz) (x : Int32) : progc (SS im lw tl) (upd2 iv 18 1 x) a cd sz := by
  obtain ⟨c, N, rs, h1, h2, h3, h4, h5, h6⟩ := h
  have e18 : (SS im lw tl)[18]? = some (2, 2, [some 19, none]) := rfl
  have ha : a ≠ 18 := by intro e; rw [e, e18] at h1; simp at h1
  have hc : c ≠ 18 := by intro e; rw [e, e18] at h2; simp at h2
  exact ⟨c, N, rs, h1, h2, h3, by rw [upd2_off _ _ _ _ ha]; exact h4, h5, fun i hi => by rw [upd2_off _ _ _ _ hc]; exact h6 i hi⟩
theorem nI_15 : (nI 15).toBitVec.toNat = 2 ^ 4 - 1 := by decide
theorem nI_4s : ((nI 4 &&& 31).toBitVec.smod 32).toNat = 4 := by decide
theorem c_size {X : XE} {d : Nat} {S : List XC} {iv : Nat → Nat → Int32} {lv : Nat → Nat → Int64} {a : Nat} {cd : Nat → Nat × Nat} {sz : Nat} (h : progc S iv a cd sz) : call X xT (d + 1) 35 [.inr (.inr (some a))] (S, iv, lv) = some (some (.inl (nI sz)), (S, iv, lv)) := by
  obtain ⟨c, N, rs, h1, h2, h3, h4, h5, h6⟩ := h
  rw [tr35, obj_ok (ci := 5) (fi := 2) h1 rfl (show (2 : Nat) < 4 by decide), h4]
theorem c_opAt {X : XE} {d : Nat} {S : List XC} {iv : Nat → Nat → Int32} {lv : Nat → Nat → Int64} {a : Nat} {cd : Nat → Nat × Nat} {sz : Nat} (h : progc S iv a cd sz) (hs : sz ≤ 400) {i : Nat} (hi : i < 2000000) : call X xT (d + 1) 36 [.inr (.inr (some a)), .inl (nI i)] (S, iv, lv) = some (some (.inl (if i < sz then nI (cd i).1 else -1)), (S, iv, lv)) := by
  obtain ⟨c, N, rs, h1, h2, h3, h4, h5, h6⟩ := h
  rw [tr36, if_neg (nI_pos (by omega)), obj_ok (ci := 5) (fi := 2) h1 rfl (show (2 : Nat) < 4 by decide), h4]
  by_cases hb : i < sz
  · obtain ⟨g1, g2, g3⟩ := h6 i hb
    rw [if_neg (nI_ge hb (by omega)), obj_ok (ci := 5) (fi := 0) h1 rfl (show (0 : Nat) < 4 by decide), if_pos hb]
    show ild X S iv (some c) 50 (nI i) _ = _
    rw [ild_ok X iv h3 h2 rfl (inb_nI (by show i < N; omega) (by omega)), nI_clamp (by omega), g1, pk_andN (by omega) 4 nI_15, show ((cd i).2 * 16 + (cd i).1) % 2 ^ 4 = (cd i).1 by omega]
  · rw [if_pos (nI_le (by omega) (by omega)), if_neg hb]
theorem c_argAt {X : XE} {d : Nat} {S : List XC} {iv : Nat → Nat → Int32} {lv : Nat → Nat → Int64} {a : Nat} {cd : Nat → Nat × Nat} {sz : Nat} (h : progc S iv a cd sz) (hs : sz ≤ 400) {i : Nat} (hi : i < 2000000) : call X xT (d + 1) 37 [.inr (.inr (some a)), .inl (nI i)] (S, iv, lv) = some (some (.inl (if i < sz then nI (cd i).2 else nI 0)), (S, iv, lv)) := by
  obtain ⟨c, N, rs, h1, h2, h3, h4, h5, h6⟩ := h
  rw [tr37, if_neg (nI_pos (by omega)), obj_ok (ci := 5) (fi := 2) h1 rfl (show (2 : Nat) < 4 by decide), h4]
  by_cases hb : i < sz
  · obtain ⟨g1, g2, g3⟩ := h6 i hb
    rw [if_neg (nI_ge hb (by omega)), obj_ok (ci := 5) (fi := 0) h1 rfl (show (0 : Nat) < 4 by decide), if_pos hb]
    show ild X S iv (some c) 50 (nI i) _ = _
    rw [ild_ok X iv h3 h2 rfl (inb_nI (by show i < N; omega) (by omega)), nI_clamp (by omega), g1, pk_shrN (by omega) _ 4 nI_4s, show ((cd i).2 * 16 + (cd i).1) / 2 ^ 4 = (cd i).2 by omega]
  · rw [if_pos (nI_le (by omega) (by omega)), if_neg hb]
theorem c_push (X : XE) (d : Nat) (im lw : List (Option Nat)) (tl : List XC) (iv : Nat → Nat → Int32) (lv : Nat → Nat → Int64) (f : Nat → Int64) {m : Nat} (hm : m ≤ 64) (x : Int32) : call X xT (d + 1) 38 [.inr (.inr (some 18)), .inl x] (SS im lw tl, upd2 iv 18 1 (nI m), upr lv 19 f) = if m < 64 then some (some (.inl (nI 1)), (SS im lw tl, upd2 iv 18 1 (nI (m + 1)), upr lv 19 (pu f m x.toInt64))) else some (some (.inl (nI 0)), (SS im lw tl, upd2 iv 18 1 (nI m), upr lv 19 f)) := by
  rw [tr38]
  simp only [upd2_self, upd2_upd2, nI_add, nI_clamp (show m < 2 ^ 31 by omega), upd2_upr]
  rw [if_neg (nI_pos (by omega))]
  by_cases h : m < 64
  · rw [if_pos (nI_lt h (by omega)), if_pos (inb_nI h (by omega)), if_pos h]
  · rw [if_neg (nI_nlt (by omega) (by omega)), if_neg h]
/-- the end of joins: a value is stored and held against the limit -/
theorem c_joins_end (X : XE) (cl : XCl) (im lw : List (Option Nat)) (tl : List XC) (iv : Nat → Nat → Int32) (lv : Nat → Nat → Int64) (f : Nat → Int64) (o : Int32) (x y : Int64) (v6 : Int32) (z : Int64) {m : Nat} (hm : m + 2 ≤ 64) :
    ∃ t f', run X cl false 4 xc39 214 [some (.inr (.inr (some 18))), some (.inl o), some (.inr (.inl x)), none, some (.inr (.inl y)), none, some (.inl v6), some (.inr (.inl z)), none] [] (SS im lw tl, upd2 iv 18 1 (nI (m + 2)), upr lv 19 f) = some (some (.inl (b2i (cap9 z).isSome)), (SS im lw tl, upd2 iv 18 1 t, upr lv 19 f')) ∧ ∀ u, cap9 z = some u → t = nI (m + 1) ∧ f' = pu f m u := by
  refine ⟨nI (m + 1), pu f m z, ?_, ?_⟩
  · rw [sg39_214]
    simp only [upd2_self, upd2_upd2, lg_cmp_lt, lg_cmp_gt]
    rw [show nI (m + 2) - nI 1 = nI (m + 1) by rw [pk_sub (by omega)]; rfl, show nI (m + 1) - nI 1 = nI m by rw [pk_sub (by omega)]; rfl, if_pos (inb_nI (by omega) (by omega)), nI_clamp (by omega), upd2_upr]
    simp only [cap9, sg39_259, sg39_260]
    by_cases h1 : z < lN 18446744072709551616
    · simp only [if_pos h1]; rfl
    · simp only [if_neg h1]
      by_cases h2 : lN 1000000000 < z
      · simp only [if_pos h2]; rfl
      · simp only [if_neg h2]; rfl
  · intro u hu
    have e : u = z := by
      unfold cap9 at hu
      split at hu
      · cases hu
      · split at hu
        · cases hu
        · exact (Option.some.inj hu).symm
    rw [e]
    exact ⟨rfl, rfl⟩
theorem c_joins_68 (X : XE) (cl : XCl) (im lw : List (Option Nat)) (tl : List XC) (iv : Nat → Nat → Int32) (lv : Nat → Nat → Int64) (f : Nat → Int64) (o : Int32) (x y : Int64) (v6 : Int32) {m : Nat} (hm : m + 2 ≤ 64) (hd : o.toInt = 6 ∨ o.toInt = 7 → ¬ y = 0) :
    ∃ t f', run X cl false 4 xc39 68 [some (.inr (.inr (some 18))), some (.inl o), some (.inr (.inl x)), none, some (.inr (.inl y)), none, some (.inl v6), none, none] [] (SS im lw tl, upd2 iv 18 1 (nI (m + 2)), upr lv 19 f) = some (some (.inl (b2i (joi o.toInt x y).isSome)), (SS im lw tl, upd2 iv 18 1 t, upr lv 19 f')) ∧ ∀ u, joi o.toInt x y = some u → t = nI (m + 1) ∧ f' = pu f m u := by
  rw [sg39_68]
  by_cases h3 : o.toInt = 3
  · rw [if_pos h3, show joi o.toInt x y = cap9 (x + y) by simp [joi, h3]]
    exact c_joins_end X cl im lw tl iv lv f o x y v6 _ hm
  rw [if_neg h3]
  by_cases h4 : o.toInt = 4
  · rw [if_pos h4, show joi o.toInt x y = cap9 (x - y) by simp [joi, h4]]
    exact c_joins_end X cl im lw tl iv lv f o x y v6 _ hm
  rw [if_neg h4]
  by_cases h5 : o.toInt = 5
  · rw [if_pos h5, show joi o.toInt x y = cap9 (x * y) by simp [joi, h5]]
    exact c_joins_end X cl im lw tl iv lv f o x y v6 _ hm
  rw [if_neg h5]
  by_cases h6 : o.toInt = 6
  · rw [if_pos h6, if_neg (hd (Or.inl h6)), show joi o.toInt x y = cap9 (x / y) by simp [joi, h6, hd (Or.inl h6)]]
    exact c_joins_end X cl im lw tl iv lv f o x y v6 _ hm
  rw [if_neg h6]
  by_cases h7 : o.toInt = 7
  · rw [if_pos h7, if_neg (hd (Or.inr h7)), show joi o.toInt x y = cap9 (x - x / y * y) by simp [joi, h7, hd (Or.inr h7)]]
    exact c_joins_end X cl im lw tl iv lv f o x y v6 _ hm
  rw [if_neg h7]
  by_cases h8 : o.toInt = 8
  · rw [if_pos h8]
    by_cases h : x < y
    · rw [if_neg (fun q => absurd h (by rw [lg_cmp_ge, fb_le64] at q; rw [fb_lt64]; omega)), sg39_173, show joi o.toInt x y = cap9 (lN 1) by simp [joi, h8, h]]
      exact c_joins_end X cl im lw tl iv lv f o x y v6 _ hm
    · rw [if_pos (by rw [lg_cmp_ge, fb_le64]; rw [fb_lt64] at h; omega), sg39_173, show joi o.toInt x y = cap9 (lN 0) by simp [joi, h8, h]]
      exact c_joins_end X cl im lw tl iv lv f o x y v6 _ hm
  rw [if_neg h8]
  by_cases h9 : o.toInt = 9
  · rw [if_pos h9]
    by_cases h : y < x
    · rw [if_neg (fun q => absurd h (by rw [lg_cmp_le, fb_le64] at q; rw [fb_lt64]; omega)), sg39_190, show joi o.toInt x y = cap9 (lN 1) by simp [joi, h9, h]]
      exact c_joins_end X cl im lw tl iv lv f o x y v6 _ hm
    · rw [if_pos (by rw [lg_cmp_le, fb_le64]; rw [fb_lt64] at h; omega), sg39_190, show joi o.toInt x y = cap9 (lN 0) by simp [joi, h9, h]]
      exact c_joins_end X cl im lw tl iv lv f o x y v6 _ hm
  rw [if_neg h9]
  by_cases h10 : o.toInt = 10
  · rw [if_pos h10]
    by_cases h : x = y
    · rw [if_pos ((lg_cmp_eq x y).mpr h), sg39_207, show joi o.toInt x y = cap9 (lN 1) by simp [joi, h10, h]]
      exact c_joins_end X cl im lw tl iv lv f o x y v6 _ hm
    · rw [if_neg (fun q => h ((lg_cmp_eq x y).mp q)), sg39_207, show joi o.toInt x y = cap9 (lN 0) by simp [joi, h10, h]]
      exact c_joins_end X cl im lw tl iv lv f o x y v6 _ hm
  rw [if_neg h10, show joi o.toInt x y = none by simp [joi, h3, h4, h5, h6, h7, h8, h9, h10]]
  exact ⟨_, _, rfl, fun u hu => by cases hu⟩
theorem nI_is (o : Int32) {n : Nat} (h : n < 2 ^ 31) : (o = nI n) ↔ o.toInt = n := by rw [fb_eq, nI_toInt h]
theorem c_joins (X : XE) (d : Nat) (im lw : List (Option Nat)) (tl : List XC) (iv : Nat → Nat → Int32) (lv : Nat → Nat → Int64) (f : Nat → Int64) (o : Int32) (st : List Int64) (hl : st.length ≤ 64) (hst : stk f st) :
    ∃ t f', call X xT (d + 1) 39 [.inr (.inr (some 18)), .inl o] (SS im lw tl, upd2 iv 18 1 (nI st.length), upr lv 19 f) = some (some (.inl (b2i (jst o.toInt st).isSome)), (SS im lw tl, upd2 iv 18 1 t, upr lv 19 f')) ∧ ∀ q, jst o.toInt st = some q → t = nI q.length ∧ stk f' q := by
  rw [tr39]
  simp only [upd2_self]
  match st, hl, hst with
  | [], _, _ =>
    rw [if_neg (nI_ge (by show 0 < 2; omega) (by omega))]
    exact ⟨_, _, rfl, fun q hq => by cases hq⟩
  | [y], _, _ =>
    rw [if_neg (nI_ge (by show 1 < 2; omega) (by omega))]
    exact ⟨_, _, rfl, fun q hq => by cases hq⟩
  | y :: x :: q, hl, hst =>
    simp only [List.length_cons] at hl ⊢
    obtain ⟨hy, hx, hq⟩ := hst
    simp only [List.length_cons] at hy
    rw [if_pos (nI_le (by omega) (by omega)), show nI (q.length + 1 + 1) - nI 2 = nI q.length by rw [pk_sub (by omega)]; rfl, show nI (q.length + 1 + 1) - nI 1 = nI (q.length + 1) by rw [pk_sub (by omega)]; rfl, if_pos (inb_nI (by omega) (by omega)), if_pos (inb_nI (by omega) (by omega)), nI_clamp (by omega), nI_clamp (by omega), upr_at, upr_at, hy, hx]
    have key : (o.toInt = 6 ∨ o.toInt = 7 → ¬ y = 0) → ∀ v6, ∃ t f', run X (call X xT d) false 4 xc39 68 [some (.inr (.inr (some 18))), some (.inl o), some (.inr (.inl x)), none, some (.inr (.inl y)), none, some (.inl v6), none, none] [] (SS im lw tl, upd2 iv 18 1 (nI (q.length + 1 + 1)), upr lv 19 f) = some (some (.inl (b2i (jst o.toInt (y :: x :: q)).isSome)), (SS im lw tl, upd2 iv 18 1 t, upr lv 19 f')) ∧ ∀ q2, jst o.toInt (y :: x :: q) = some q2 → t = nI q2.length ∧ stk f' q2 := by
      intro hd v6
      obtain ⟨t, f', h1, h2⟩ := c_joins_68 X (call X xT d) im lw tl iv lv f o x y v6 (m := q.length) (by omega) hd
      refine ⟨t, f', ?_, ?_⟩
      · rw [show (jst o.toInt (y :: x :: q)).isSome = (joi o.toInt x y).isSome by simp [jst]]
        exact h1
      · intro q2 e
        simp only [jst, Option.map_eq_some_iff] at e
        obtain ⟨u, eu, e2⟩ := e
        obtain ⟨g1, g2⟩ := h2 u eu
        rw [← e2, g2]
        exact ⟨g1, stk_push hq⟩
    have dv : o.toInt = 6 ∨ o.toInt = 7 → ∃ t f', run X (call X xT d) false 4 xc39 47 [some (.inr (.inr (some 18))), some (.inl o), some (.inr (.inl x)), none, some (.inr (.inl y)), none, none, none, none] [] (SS im lw tl, upd2 iv 18 1 (nI (q.length + 1 + 1)), upr lv 19 f) = some (some (.inl (b2i (jst o.toInt (y :: x :: q)).isSome)), (SS im lw tl, upd2 iv 18 1 t, upr lv 19 f')) ∧ ∀ q2, jst o.toInt (y :: x :: q) = some q2 → t = nI q2.length ∧ stk f' q2 := by
      intro ho
      rw [sg39_47, sg39_52, if_neg nI1_ne0]
      by_cases h0 : y = 0
      · rw [if_pos (show lg_cmp y (lN 0) = 0 from (lg_cmp_eq _ _).mpr h0)]
        have e : jst o.toInt (y :: x :: q) = none := by
          rcases ho with ho | ho <;> simp [jst, joi, ho, h0]
        rw [e]
        exact ⟨_, _, rfl, fun u hu => by cases hu⟩
      · rw [if_neg (show ¬ lg_cmp y (lN 0) = 0 from fun h => h0 ((lg_cmp_eq _ _).mp h))]
        exact key (fun _ => h0) _
    by_cases h6 : o.toInt = 6
    · rw [if_pos ((nI_is o (n := 6) (by decide)).mpr h6)]
      exact dv (Or.inl h6)
    rw [if_neg (fun h => h6 ((nI_is o (n := 6) (by decide)).mp h))]
    by_cases h7 : o.toInt = 7
    · rw [if_pos ((nI_is o (n := 7) (by decide)).mpr h7)]
      exact dv (Or.inr h7)
    rw [if_neg (fun h => h7 ((nI_is o (n := 7) (by decide)).mp h)), sg39_52, if_pos nI0_eq0]
    exact key (fun h => by rcases h with h | h; exact absurd h h6; exact absurd h h7) _
