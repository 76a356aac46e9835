/-! the start: both objects are new -/
set_option maxRecDepth 100000 in
theorem lz_0 (L : Nat) (xs : Nat → Int32) (cl : XCl) : run (lawX L xs) cl false 4 xc0 0 (ent 4 [.inr (.inr (some 1000000))]) [] xh0 = bV (cl 1 [.inr (.inr (some 0))] (kS1, kI1, kL1)) (fun h1 => run (lawX L xs) cl false 4 xc0 7 [some (.inr (.inr (some 1000000))), none, none, none] [.inr (.inr (some 0))] h1) := seg_of (chk_pos xk0) [7] 8 rfl
set_option maxRecDepth 100000 in
theorem lz_7 (L : Nat) (xs : Nat → Int32) (cl : XCl) : run (lawX L xs) cl false 4 xc0 7 [some (.inr (.inr (some 1000000))), none, none, none] [.inr (.inr (some 0))] (kS32, kI33, kL31) = bV (cl 196 [.inr (.inr (some 46))] (kS33, kI34, kL32)) (fun h1 => run (lawX L xs) cl false 4 xc0 15 [some (.inr (.inr (some 1000000))), some (.inr (.inr (some 0))), none, none] [.inr (.inr (some 46))] h1) := seg_of (chk_pos xk0) [15] 8 rfl
set_option maxRecDepth 100000 in
theorem lz_15 (L : Nat) (xs : Nat → Int32) (cl : XCl) (h : XH) : run (lawX L xs) cl false 4 xc0 15 [some (.inr (.inr (some 1000000))), some (.inr (.inr (some 0))), none, none] [.inr (.inr (some 46))] h = run (lawX L xs) cl false 4 xc0 18 (lzS (nI 0)) [] h := seg_of (chk_pos xk0) [18] 8 rfl
theorem k_SS : kS43 = SS [none, none] n6r [] := rfl
def A0 (iv : Nat → Nat → Int32) : St := ((iv 3, (0, iv 5), iv 6, (0, fun _ => (fun _ => (0, fun _ => none, fun _ => none), 0)), -1), fun _ => none, (0, iv 10), [], iv 41, (iv 11 8, iv 0 16, iv 0 15, iv 0 17, iv 45))
def d_sc (iv : Nat → Nat → Int32) : Prop := ∀ j, j < 59 → iv 3 j = nI (if j = 3 then 1 else 0) ∧ iv 41 j = nI 0 ∧ iv 3 j = iv 48 (mx j)
def d_dd (iv : Nat → Nat → Int32) : Prop := ∀ j, j < 40 → iv 48 (68 + j) = iv 5 j
def d_fe (iv : Nat → Nat → Int32) : Prop := ∀ p, p < 6 → iv 48 (62 + p) = iv 6 p ∧ iv 6 p = nI 0
def d_mi (iv : Nat → Nat → Int32) : Prop := iv 4 1 = nI 0 ∧ iv 1 4 = nI 0 ∧ iv 1 5 = -1 ∧ iv 9 1 = nI 0 ∧ iv 30 2 = nI 0 ∧ iv 30 3 = nI 0
def d_mm (iv : Nat → Nat → Int32) : Prop := iv 48 2 = nI 0 ∧ iv 48 3 = nI 0 ∧ iv 48 4 = -1 ∧ iv 46 13 = nI 0 ∧ iv 46 8 = nI 0 ∧ iv 46 58 = -1 ∧ iv 46 59 = -1 ∧ iv 46 20 = nI 0
def d_m2 (iv : Nat → Nat → Int32) : Prop := iv 46 18 = iv 11 8 ∧ iv 46 54 = iv 0 16 ∧ iv 46 11 = iv 0 15 ∧ iv 46 1 = iv 0 17 ∧ iv 47 1 = iv 45 0 ∧ iv 47 2 = iv 45 1 ∧ iv 47 3 = iv 45 2 ∧ iv 47 5 = iv 45 3 ∧ iv 47 6 = iv 45 4
def d_im (iv : Nat → Nat → Int32) : Prop := ∀ k, k < 2 → iv 50 k = nI 0
def d_co (lv : Nat → Nat → Int64) : Prop := (∀ j, j < 10 → lv 61 j = lN (wK.getD j 0)) ∧ (∀ j, j < 7 → lv 62 j = lN (oK.getD j 0)) ∧ (∀ j, j < 4 → lv 63 j = lN (hK.getD j 0)) ∧ (∀ j, j < 4 → lv 76 j = lN (aK.getD j 0))
theorem n6_get (k : Nat) : n6r.getD k none = none := by
  unfold n6r
  rcases k with _ | _ | _ | _ | _ | _ | k <;> rfl
theorem n2_get (k : Nat) : ([none, none] : List (Option Nat)).getD k none = none := by
  rcases k with _ | _ | k <;> rfl
theorem rel_C0 {iv : Nat → Nat → Int32} (k_mi : d_mi iv) : RelC (A0 iv) [none, none] n6r [] iv := by
  refine ⟨⟨rfl, rfl, fun k r _ h => ?_⟩, ⟨fun j _ => rfl, k_mi.1, fun j _ => rfl, fun p _ => rfl, k_mi.2.1, k_mi.2.2.1, fun k hk => absurd hk (Nat.not_lt_zero _)⟩, ⟨fun k _ => Or.inl ⟨rfl, n2_get k⟩, fun b b' h _ => ?_⟩, ⟨k_mi.2.2.2.1, fun j hj => absurd hj (Nat.not_lt_zero _)⟩, ⟨0, by omega, k_mi.2.2.2.2.1, k_mi.2.2.2.2.2, fun i e h => ?_⟩, fun j _ => rfl, ⟨rfl, rfl, rfl, rfl, fun i _ => rfl⟩⟩
  · rw [n6_get] at h; cases h
  · rw [n2_get] at h; cases h
  · have h : ([] : List (Int32 × Sc))[i]? = some e := h
    simp at h
theorem rel_M0 {iv : Nat → Nat → Int32} {lv : Nat → Nat → Int64} (k_sc : d_sc iv) (k_dd : d_dd iv) (k_fe : d_fe iv) (k_mm : d_mm iv) (k_m2 : d_m2 iv) (k_im : d_im iv) (k_co : d_co lv) : RelM (A0 iv) iv lv := by
  obtain ⟨m1, m2, m3, m4, m5, m6, m7, m8⟩ := k_mm
  refine ⟨⟨fun j hj => (k_sc j hj).2.2, m1, k_dd, fun p hp => (k_fe p hp).1, m2, m3, fun k hk => absurd hk (Nat.not_lt_zero _)⟩, fun k hk => Or.inl ⟨rfl, k_im k hk⟩, ⟨m4, fun j hj => absurd hj (Nat.not_lt_zero _)⟩, ⟨m5, fun i e h => by have h : ([] : List (Int32 × Sc))[i]? = some e := h; simp at h⟩, Or.inl ⟨m6, m7, (k_sc 0 (by omega)).2.1, (k_sc 1 (by omega)).2.1⟩, k_m2, m8, k_co⟩
theorem ok_A0 {iv : Nat → Nat → Int32} (k_sc : d_sc iv) (k_fe : d_fe iv) : OKA (A0 iv) := by
  have s3 : okS (iv 3) := by
    intro j hj
    by_cases e : j = 3
    · subst e
      exact ⟨1, by decide, (k_sc 3 hj).1⟩
    · have h := (k_sc j hj).1
      rw [if_neg e] at h
      exact ⟨0, Nat.zero_le _, h⟩
  refine ⟨⟨⟨s3, fun t p ht hp _ => ?_⟩, ⟨Nat.zero_le _, fun i hi => absurd hi (Nat.not_lt_zero _)⟩, ⟨fun _ => 0, fun p hp => ⟨(k_fe p hp).2, (by decide : 0 < 64), fun _ => rfl⟩, fun p q _ _ => by show Nat.testBit 0 q = Nat.testBit 0 p; rw [Nat.zero_testBit, Nat.zero_testBit]⟩, Nat.zero_le _, Or.inl rfl⟩, fun k w h => (by have h : (none : Option Wd) = some w := h; cases h), ⟨Nat.zero_le _, fun j hj => absurd hj (Nat.not_lt_zero _)⟩, ⟨Nat.zero_le _, fun e h => absurd h List.not_mem_nil⟩, fun j hj => ⟨0, Nat.zero_le _, (k_sc j hj).2.1⟩⟩
  have := (k_sc (35 + (t * 6 + p)) (by omega)).1
  rw [if_neg (by omega)] at this
  exact this
theorem k_sc : d_sc kI45 := by
  unfold d_sc
  decide +kernel
theorem k_dd : d_dd kI45 := by
  unfold d_dd
  decide +kernel
theorem k_fe : d_fe kI45 := by
  unfold d_fe
  decide +kernel
theorem k_mi : d_mi kI45 := by
  unfold d_mi
  decide +kernel
theorem k_mm : d_mm kI45 := by
  unfold d_mm
  decide +kernel
theorem k_m2 : d_m2 kI45 := by
  unfold d_m2
  decide +kernel
theorem k_im : d_im kI45 := by
  unfold d_im
  decide +kernel
theorem k_co : d_co kL42 := by
  unfold d_co
  decide +kernel
theorem law_runs : LawRuns := by
  intro L xs hL
  have h := law_loop (L := L) (xs := xs) hL 512 0 [none, none] n6r [] kI45 kL42 (A0 kI45) (by omega) (by omega) ⟨rel_C0 k_mi, rel_M0 k_sc k_dd k_fe k_mm k_m2 k_im k_co, ok_A0 k_sc k_fe⟩ (by rw [SS_len]; show 79 + 0 ≤ _; omega) (by decide +kernel)
  have c1 : call (lawX L xs) xT 2000 1 [.inr (.inr (some 0))] (kS1, kI1, kL1) = some (none, (kS32, kI33, kL31)) := kc1 L xs 1997
  have c2 : call (lawX L xs) xT 2000 196 [.inr (.inr (some 46))] (kS33, kI34, kL32) = some (none, (kS43, kI45, kL42)) := kc18 L xs 1999
  rw [lz_0, c1, bV_some, lz_7, c2, bV_some, lz_15, k_SS]
  exact h
