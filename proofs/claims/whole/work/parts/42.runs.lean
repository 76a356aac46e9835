theorem c_runs_head (X : XE) (d : Nat) (im lw : List (Option Nat)) (tl : List XC) (iv : Nat → Nat → Int32) (lv : Nat → Nat → Int64) {a b : Nat} {cd : Nat → Nat × Nat} {sz : Nat} (hp : progc (SS im lw tl) iv a cd sz) (hsz : sz ≤ 400) {s i m : Nat} (f : Nat → Int64) (v2 : Int32) (w6 w7 w8 : Option XV) (hs : s < sz) (hi : i < 2000000) :
    run X (call X xT (d + 1)) false 4 xc34 11 [some (.inr (.inr (some 18))), some (.inr (.inr (some a))), some (.inl v2), some (.inr (.inr (some b))), some (.inl (nI i)), some (.inl (nI s)), w6, w7, w8] [] (SS im lw tl, upd2 iv 18 1 (nI m), upr lv 19 f) = run X (call X xT (d + 1)) false 4 xc34 34 [some (.inr (.inr (some 18))), some (.inr (.inr (some a))), some (.inl v2), some (.inr (.inr (some b))), some (.inl (nI i)), some (.inl (nI s)), some (.inl (if i < sz then nI (cd i).1 else -1)), w7, w8] [.inl (if i < sz then nI (cd i).2 else nI 0)] (SS im lw tl, upd2 iv 18 1 (nI m), upr lv 19 f) := by
  have hp2 := progc_top hp (nI m)
  obtain ⟨c, N, rs, h1, -⟩ := hp
  rw [sg34_11, objR_ok h1 rfl, c_size hp2, bI_some, sg34_17, if_neg (nI_ge hs (by omega)), objR_ok h1 rfl, c_opAt hp2 hsz hi, bI_some, sg34_26, objR_ok h1 rfl, c_argAt hp2 hsz hi, bI_some]
theorem c_runs_loop (X : XE) (d : Nat) (im lw : List (Option Nat)) (tl : List XC) (iv : Nat → Nat → Int32) (lv : Nat → Nat → Int64) {a b nw : Nat} {rs : List (Option Nat)} {cd : Nat → Nat × Nat} {sz : Nat} (hp : progc (SS im lw tl) iv a cd sz) (hsz : sz ≤ 400) (hb : b < 1000000) (hS : (SS im lw tl)[b]? = some (50, nw, rs)) (hnw : nw < 1000) (v2 : Int32) :
    ∀ (n s i : Nat) (st : List Int64) (f : Nat → Int64) (w6 w7 w8 : Option XV), s + n = sz → i < 2000000 → st.length ≤ 64 → stk f st →
    ∃ t f', run X (call X xT (d + 1)) false 4 xc34 11 [some (.inr (.inr (some 18))), some (.inr (.inr (some a))), some (.inl v2), some (.inr (.inr (some b))), some (.inl (nI i)), some (.inl (nI s)), w6, w7, w8] [] (SS im lw tl, upd2 iv 18 1 (nI st.length), upr lv 19 f) = some (some (.inl (b2i (ev cd sz (iv b) nw n i st).isSome)), (SS im lw tl, upd2 iv 18 1 t, upr lv 19 f')) ∧ ∀ v, ev cd sz (iv b) nw n i st = some v → f' 0 = v := by
  have e18 : (SS im lw tl)[18]? = some (2, 2, [some 19, none]) := rfl
  have hb18 : b ≠ 18 := by intro e; rw [e, e18] at hS; simp at hS
  intro n
  induction n with
  | zero =>
    intro s i st f w6 w7 w8 hs hi hl hst
    have hp2 := progc_top hp (nI st.length)
    obtain ⟨c, N, rs, h1, -⟩ := hp
    rw [sg34_11, objR_ok h1 rfl, c_size hp2, bI_some, sg34_17, if_pos (nI_le (by omega) (by omega))]
    exact ⟨_, _, rfl, fun u hu => by cases hu⟩
  | succ n ih =>
    intro s i st f w6 w7 w8 hs hi hl hst
    rw [c_runs_head X d im lw tl iv lv hp hsz f v2 w6 w7 w8 (by omega) hi, sg34_34]
    by_cases hin : i < sz
    · have hc : (cd i).1 < 16 ∧ (cd i).2 < 1000000 := by
        obtain ⟨c, N, rs, -, -, -, -, -, h6⟩ := hp
        exact (h6 i hin).2
      simp only [if_pos hin, upd2_self, upd2_upd2, upd2_upr, nI_toInt (show (cd i).1 < 2 ^ 31 by omega), nI_add]
      by_cases h0 : (cd i).1 = 0
      · rw [if_pos (show (((cd i).1 : Nat) : Int) = 0 by omega)]
        have e : ev cd sz (iv b) nw (n + 1) i st = if st.length = 1 then st.head? else none := by simp only [ev, if_pos hin, if_pos h0]
        rw [e]
        by_cases h1 : st.length = 1
        · rw [if_pos (by rw [h1]), if_pos h1]
          match st, h1, hst with
          | [v], _, hst => exact ⟨_, _, rfl, fun u hu => by rw [← Option.some.inj hu]; exact hst.1⟩
        · rw [if_neg (fun q => h1 ((nI_eq (by omega) (by omega)).mp q)), if_neg h1]
          exact ⟨_, _, rfl, fun u hu => by cases hu⟩
      rw [if_neg (show ¬ (((cd i).1 : Nat) : Int) = 0 by omega)]
      by_cases h1 : (cd i).1 = 1
      · rw [if_pos (show (((cd i).1 : Nat) : Int) = 1 by omega), c_push X d im lw tl iv lv f hl]
        have e : ev cd sz (iv b) nw (n + 1) i st = if st.length < 64 then ev cd sz (iv b) nw n (i + 1) ((nI (cd i).2).toInt64 :: st) else none := by simp only [ev, if_pos hin, if_neg h0, if_pos h1]
        rw [e]
        by_cases hm : st.length < 64
        · rw [if_pos hm, if_pos hm, bI_some, sg34_132, if_neg nI1_ne0, nI_add]
          exact ih (s + 1) (i + 1) ((nI (cd i).2).toInt64 :: st) _ _ _ _ (by omega) (by omega) (by simp only [List.length_cons]; omega) (stk_push hst)
        · rw [if_neg hm, if_neg hm, bI_some, sg34_132, if_pos nI0_eq0]
          exact ⟨_, _, rfl, fun u hu => by cases hu⟩
      rw [if_neg (show ¬ (((cd i).1 : Nat) : Int) = 1 by omega)]
      by_cases h2 : (cd i).1 = 2
      · rw [if_pos (show (((cd i).1 : Nat) : Int) = 2 by omega), if_neg (nI_pos (by omega)), alen_ok X hb hS (show (50 : Nat) ≤ 50 by decide)]
        have e : ev cd sz (iv b) nw (n + 1) i st = if (cd i).2 < nw then (if st.length < 64 then ev cd sz (iv b) nw n (i + 1) ((iv b (cd i).2).toInt64 :: st) else none) else none := by simp only [ev, if_pos hin, if_neg h0, if_neg h1, if_pos h2]
        rw [e]
        by_cases hw : (cd i).2 < nw
        · rw [if_neg (nI_ge hw (show nw < 2 ^ 31 by omega)), if_pos hw, ild_ok X _ hb hS rfl (inb_nI hw (by omega)), nI_clamp (by omega), upd2_off _ _ _ _ hb18, c_push X d im lw tl iv lv f hl]
          by_cases hm : st.length < 64
          · rw [if_pos hm, if_pos hm, bI_some, sg34_157, if_neg nI1_ne0, nI_add]
            exact ih (s + 1) (i + 1) ((iv b (cd i).2).toInt64 :: st) _ _ _ _ (by omega) (by omega) (by simp only [List.length_cons]; omega) (stk_push hst)
          · rw [if_neg hm, if_neg hm, bI_some, sg34_157, if_pos nI0_eq0]
            exact ⟨_, _, rfl, fun u hu => by cases hu⟩
        · rw [if_pos (nI_le (show nw ≤ (cd i).2 by omega) (by omega)), if_neg hw]
          exact ⟨_, _, rfl, fun u hu => by cases hu⟩
      rw [if_neg (show ¬ (((cd i).1 : Nat) : Int) = 2 by omega)]
      have jn : ¬ (cd i).1 = 11 → ¬ (cd i).1 = 12 → ¬ (cd i).1 = 13 → ∃ t f', bI (call X xT (d + 1) 39 [.inr (.inr (some 18)), .inl (nI (cd i).1)] (SS im lw tl, upd2 iv 18 1 (nI st.length), upr lv 19 f)) (fun r8 h7 => run X (call X xT (d + 1)) false 4 xc34 302 [some (.inr (.inr (some 18))), some (.inr (.inr (some a))), some (.inl v2), some (.inr (.inr (some b))), some (.inl (nI (i + 1))), some (.inl (nI s)), some (.inl (nI (cd i).1)), some (.inl (nI (cd i).2)), w8] [.inl r8] h7) = some (some (.inl (b2i (ev cd sz (iv b) nw (n + 1) i st).isSome)), (SS im lw tl, upd2 iv 18 1 t, upr lv 19 f')) ∧ ∀ v, ev cd sz (iv b) nw (n + 1) i st = some v → f' 0 = v := by
        intro g1 g2 g3
        obtain ⟨t, f', q1, q2⟩ := c_joins X d im lw tl iv lv f (nI (cd i).1) st hl hst
        rw [nI_toInt (show (cd i).1 < 2 ^ 31 by omega)] at q1 q2
        have e : ev cd sz (iv b) nw (n + 1) i st = match jst (cd i).1 st with
          | some q => ev cd sz (iv b) nw n (i + 1) q
          | none => none := by simp only [ev, if_pos hin, if_neg h0, if_neg h1, if_neg h2, if_neg g1, if_neg g2, if_neg g3]; rfl
        rw [q1, bI_some, sg34_302, b2i_ite, e]
        cases hj : jst (cd i).1 st with
        | none => exact ⟨_, _, rfl, fun u hu => by cases hu⟩
        | some q =>
          obtain ⟨q3, q4⟩ := q2 q hj
          have hql : q.length ≤ 64 := by
            unfold jst at hj
            split at hj
            · simp only [Option.map_eq_some_iff] at hj
              obtain ⟨u, -, e2⟩ := hj
              rw [← e2]
              simp only [List.length_cons] at hl ⊢
              omega
            · cases hj
          rw [q3, nI_add]
          exact ih (s + 1) (i + 1) q f' _ _ _ (by omega) (by omega) hql q4
      by_cases h3 : (cd i).1 = 3
      · rw [if_pos (show (((cd i).1 : Nat) : Int) = 3 by omega)]
        exact jn (by omega) (by omega) (by omega)
      rw [if_neg (show ¬ (((cd i).1 : Nat) : Int) = 3 by omega)]
      by_cases h4 : (cd i).1 = 4
      · rw [if_pos (show (((cd i).1 : Nat) : Int) = 4 by omega)]
        exact jn (by omega) (by omega) (by omega)
      rw [if_neg (show ¬ (((cd i).1 : Nat) : Int) = 4 by omega)]
      by_cases h5 : (cd i).1 = 5
      · rw [if_pos (show (((cd i).1 : Nat) : Int) = 5 by omega)]
        exact jn (by omega) (by omega) (by omega)
      rw [if_neg (show ¬ (((cd i).1 : Nat) : Int) = 5 by omega)]
      by_cases h6 : (cd i).1 = 6
      · rw [if_pos (show (((cd i).1 : Nat) : Int) = 6 by omega)]
        exact jn (by omega) (by omega) (by omega)
      rw [if_neg (show ¬ (((cd i).1 : Nat) : Int) = 6 by omega)]
      by_cases h7 : (cd i).1 = 7
      · rw [if_pos (show (((cd i).1 : Nat) : Int) = 7 by omega)]
        exact jn (by omega) (by omega) (by omega)
      rw [if_neg (show ¬ (((cd i).1 : Nat) : Int) = 7 by omega)]
      by_cases h8 : (cd i).1 = 8
      · rw [if_pos (show (((cd i).1 : Nat) : Int) = 8 by omega)]
        exact jn (by omega) (by omega) (by omega)
      rw [if_neg (show ¬ (((cd i).1 : Nat) : Int) = 8 by omega)]
      by_cases h9 : (cd i).1 = 9
      · rw [if_pos (show (((cd i).1 : Nat) : Int) = 9 by omega)]
        exact jn (by omega) (by omega) (by omega)
      rw [if_neg (show ¬ (((cd i).1 : Nat) : Int) = 9 by omega)]
      by_cases h10 : (cd i).1 = 10
      · rw [if_pos (show (((cd i).1 : Nat) : Int) = 10 by omega)]
        exact jn (by omega) (by omega) (by omega)
      rw [if_neg (show ¬ (((cd i).1 : Nat) : Int) = 10 by omega)]
      by_cases h11 : (cd i).1 = 11
      · rw [if_pos (show (((cd i).1 : Nat) : Int) = 11 by omega)]
        cases st with
        | nil =>
          have e : ev cd sz (iv b) nw (n + 1) i [] = none := by simp only [ev, if_pos hin, if_neg h0, if_neg h1, if_neg h2, if_pos h11]
          rw [e, if_pos (show nI ([] : List Int64).length ≤ 0 by decide)]
          exact ⟨_, _, rfl, fun u hu => by cases hu⟩
        | cons y r =>
          have e : ev cd sz (iv b) nw (n + 1) i (y :: r) = ev cd sz (iv b) nw n (i + 1) ((lN 1 - y) :: r) := by simp only [ev, if_pos hin, if_neg h0, if_neg h1, if_neg h2, if_pos h11]
          rw [e]
          simp only [List.length_cons] at hl ⊢
          rw [if_neg (nI_nle (by omega) (by omega)), show nI (r.length + 1) - nI 1 = nI r.length by rw [pk_sub (by omega)]; rfl, if_pos (inb_nI (by omega) (by omega)), if_pos (inb_nI (by omega) (by omega)), nI_clamp (by omega), upr_at, hst.1]
          exact ih (s + 1) (i + 1) ((lN 1 - y) :: r) _ _ _ _ (by omega) (by omega) (by simp only [List.length_cons]; omega) (stk_push hst.2)
      rw [if_neg (show ¬ (((cd i).1 : Nat) : Int) = 11 by omega)]
      by_cases h12 : (cd i).1 = 12
      · rw [if_pos (show (((cd i).1 : Nat) : Int) = 12 by omega)]
        cases st with
        | nil =>
          have e : ev cd sz (iv b) nw (n + 1) i [] = none := by simp only [ev, if_pos hin, if_neg h0, if_neg h1, if_neg h2, if_neg h11, if_pos h12]
          rw [e, if_pos (show nI ([] : List Int64).length ≤ 0 by decide)]
          exact ⟨_, _, rfl, fun u hu => by cases hu⟩
        | cons y r =>
          have e : ev cd sz (iv b) nw (n + 1) i (y :: r) = if y = lN 0 then ev cd sz (iv b) nw n (i + 1) r else ev cd sz (iv b) nw n (cd i).2 (y :: r) := by simp only [ev, if_pos hin, if_neg h0, if_neg h1, if_neg h2, if_neg h11, if_pos h12]
          rw [e]
          simp only [List.length_cons] at hl ⊢
          rw [if_neg (nI_nle (by omega) (by omega)), show nI (r.length + 1) - nI 1 = nI r.length by rw [pk_sub (by omega)]; rfl, if_pos (inb_nI (by omega) (by omega)), nI_clamp (by omega), upr_at, hst.1]
          by_cases hy : y = lN 0
          · rw [if_pos (show lg_cmp y (lN 0) = 0 from (lg_cmp_eq _ _).mpr hy), if_pos hy]
            rw [if_pos (show nI (cd i).1 = nI 12 by rw [h12])]
            exact ih (s + 1) (i + 1) r f _ _ _ (by omega) (by omega) (by omega) hst.2
          · rw [if_neg (show ¬ lg_cmp y (lN 0) = 0 from fun q => hy ((lg_cmp_eq _ _).mp q)), if_neg hy]
            rw [if_pos (show nI (cd i).1 = nI 12 by rw [h12])]
            exact ih (s + 1) (cd i).2 (y :: r) f _ _ _ (by omega) (by omega) (by simp only [List.length_cons]; omega) hst
      rw [if_neg (show ¬ (((cd i).1 : Nat) : Int) = 12 by omega)]
      by_cases h13 : (cd i).1 = 13
      · rw [if_pos (show (((cd i).1 : Nat) : Int) = 13 by omega)]
        cases st with
        | nil =>
          have e : ev cd sz (iv b) nw (n + 1) i [] = none := by simp only [ev, if_pos hin, if_neg h0, if_neg h1, if_neg h2, if_neg h11, if_neg h12, if_pos h13]
          rw [e, if_pos (show nI ([] : List Int64).length ≤ 0 by decide)]
          exact ⟨_, _, rfl, fun u hu => by cases hu⟩
        | cons y r =>
          have e : ev cd sz (iv b) nw (n + 1) i (y :: r) = if y = lN 0 then ev cd sz (iv b) nw n (cd i).2 (y :: r) else ev cd sz (iv b) nw n (i + 1) r := by simp only [ev, if_pos hin, if_neg h0, if_neg h1, if_neg h2, if_neg h11, if_neg h12, if_pos h13]
          rw [e]
          simp only [List.length_cons] at hl ⊢
          rw [if_neg (nI_nle (by omega) (by omega)), show nI (r.length + 1) - nI 1 = nI r.length by rw [pk_sub (by omega)]; rfl, if_pos (inb_nI (by omega) (by omega)), nI_clamp (by omega), upr_at, hst.1]
          by_cases hy : y = lN 0
          · rw [if_pos (show lg_cmp y (lN 0) = 0 from (lg_cmp_eq _ _).mpr hy), if_pos hy]
            rw [if_neg (show ¬ nI (cd i).1 = nI 12 by rw [h13]; decide)]
            exact ih (s + 1) (cd i).2 (y :: r) f _ _ _ (by omega) (by omega) (by simp only [List.length_cons]; omega) hst
          · rw [if_neg (show ¬ lg_cmp y (lN 0) = 0 from fun q => hy ((lg_cmp_eq _ _).mp q)), if_neg hy]
            rw [if_neg (show ¬ nI (cd i).1 = nI 12 by rw [h13]; decide)]
            exact ih (s + 1) (i + 1) r f _ _ _ (by omega) (by omega) (by omega) hst.2
      rw [if_neg (show ¬ (((cd i).1 : Nat) : Int) = 13 by omega)]
      exact jn h11 h12 h13
    · simp only [if_neg hin]
      rw [if_neg (show ¬ (-1 : Int32).toInt = 0 by decide), if_neg (show ¬ (-1 : Int32).toInt = 1 by decide), if_neg (show ¬ (-1 : Int32).toInt = 2 by decide), if_neg (show ¬ (-1 : Int32).toInt = 3 by decide), if_neg (show ¬ (-1 : Int32).toInt = 4 by decide), if_neg (show ¬ (-1 : Int32).toInt = 5 by decide), if_neg (show ¬ (-1 : Int32).toInt = 6 by decide), if_neg (show ¬ (-1 : Int32).toInt = 7 by decide), if_neg (show ¬ (-1 : Int32).toInt = 8 by decide), if_neg (show ¬ (-1 : Int32).toInt = 9 by decide), if_neg (show ¬ (-1 : Int32).toInt = 10 by decide), if_neg (show ¬ (-1 : Int32).toInt = 11 by decide), if_neg (show ¬ (-1 : Int32).toInt = 12 by decide), if_neg (show ¬ (-1 : Int32).toInt = 13 by decide)]
      have e : ev cd sz (iv b) nw (n + 1) i st = none := by simp only [ev, if_neg hin]
      obtain ⟨t, f', q1, q2⟩ := c_joins X d im lw tl iv lv f (-1) st hl hst
      have e2 : jst (-1 : Int32).toInt st = none := by
        have e3 : (-1 : Int32).toInt = -1 := by decide
        rw [e3]
        match st with
        | [] => rfl
        | [_] => rfl
        | y :: x :: q => simp [jst, joi]
      rw [e2] at q1
      rw [e, q1, bI_some, sg34_302, if_pos (show b2i (none : Option (List Int64)).isSome = 0 by decide)]
      exact ⟨_, _, rfl, fun u hu => by cases hu⟩
/-- Machine.runs: the value is at the stack's first place -/
theorem c_runs (X : XE) (d : Nat) (im lw : List (Option Nat)) (tl : List XC) (iv : Nat → Nat → Int32) (lv : Nat → Nat → Int64) {a b nw : Nat} {rs : List (Option Nat)} {cd : Nat → Nat × Nat} {sz : Nat} (hp : progc (SS im lw tl) iv a cd sz) (hsz : sz ≤ 400) (hb : b < 1000000) (hS : (SS im lw tl)[b]? = some (50, nw, rs)) (hnw : nw < 1000) {i : Nat} (hi : i < 2000000) :
    ∃ t f', call X xT (d + 2) 34 [.inr (.inr (some 18)), .inr (.inr (some a)), .inl (nI i), .inr (.inr (some b))] (SS im lw tl, iv, lv) = some (some (.inl (b2i (ev cd sz (iv b) nw sz i []).isSome)), (SS im lw tl, upd2 iv 18 1 t, upr lv 19 f')) ∧ ∀ v, ev cd sz (iv b) nw sz i [] = some v → f' 0 = v := by
  rw [tr34]
  have h := c_runs_loop X d im lw tl iv lv hp hsz hb hS hnw (nI i) sz 0 i [] (lv 19) none none none (by omega) hi (by simp) trivial
  rw [upr_id] at h
  exact h
