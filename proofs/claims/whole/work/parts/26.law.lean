/-! THE CLAIM OUT OF ONE WALK OF THE LAW'S BODY. Your part is whole_start (and what it stands on); all else here is the same for every law, but numbers. -/
def R_law : String := "TamerStateLaw"
def lw_P (b : Addr) (xs : List Int32) (args : Array Value) (s : State) : Prop := args = #[.ref b] ∧ s.IntsAt b xs ∧ xs.length ≤ 3072 ∧ (Jvm.Cond.and given_1 narrow_1).before args s = true
def lw_Q (_ : Array Value) (s : State) (o : Outcome) (t : State) : Prop := o = .returned (some (.int 1)) ∧ Framed s o t [] 600000 7302249
def lw_Z (below : List Frame) (a : Array Value) (s : State) : State → Prop := fun t => ∃ o, t.status = .running ∧ Ended t below o ∧ lw_Q a s o t
/-- the law's own end, with 1 on the stack, nothing written that was there before, its room as the claim has it -/
theorem lw_ret {p : Program} {l : Launch} {e : Env} {s : State} {m : MethodId} {below : List Frame} {meth : Method} {c : Code} {b : Nat} (hx : p.tables.exec = Jvm.exec) (hb : c.code = code) (hr : meth.sig.returnType = ret) (hlocks : meth.locks = false) {pc : Nat} {H : Heap} {ls : Array Slot} (hdg : decode code pc = .ok (.ireturn, 1)) : W p l e room_1 s m #[Value.ref b] below meth c H [] 600000 7302249 (lw_Z below #[Value.ref b] s) (F0 m pc ls [.int 1]) := by
  intro T hT X
  obtain ⟨fs, hret, hrun, hended, hW, hframe⟩ := X.leave (v := some (.int 1)) (hlocks := hlocks) (fun h => by rw [hr] at h; cases h)
  have hmeth' : T.vm.method? m = some meth := X.method'
  refine ⟨T.setFrames fs, ?_, .returned (some (.int 1)), hrun, hended, rfl, ⟨_, rfl⟩, hW, hframe⟩
  jvm_step X.here [X.here.top, hx, hb, hdg, hmeth', hr, ret, narrow_b1]
  (try refine ⟨rfl, ?_⟩); (try refine ⟨rfl, ?_⟩)
  first | (intro acts; rw [hret _ acts rfl rfl rfl]) | rw [hret _ _ rfl rfl rfl]
  exact Steps.refl _
/-- what holds at the law's entry: the machine, the code, the tables' words (any of lw_tbl by 'hts w (by decide +kernel)'), the script of L ints xs at the cell b, what the Statement gives of the start (any of its parts by flat_of_before) -/
def lw_At (p : Program) (s : State) (m : MethodId) (meth : Method) (c : Code) (b L : Nat) (xs : Nat → Int32) : Prop :=
  p.tables.exec = Jvm.exec ∧ c.code = code ∧ meth.sig.returnType = ret ∧ c.maxLocals = 4 ∧ s.vm.findClass R_law = some m.cls ∧ (∀ w ∈ lw_tbl, w.before #[Value.ref b] s = true) ∧ va_X b L xs s s.heap ∧ b < s.heap.size ∧ meth.locks = false ∧ (Jvm.Cond.and given_1 narrow_1).before #[Value.ref b] s = true
def xb4 : List Int32 := [97, 110, 103, 101, 114, 115, 32, 104, 117, 110, 103, 101, 114, 115, 32, 112, 97, 121, 115, 32, 98, 97, 114, 115, 32, 99, 114, 97, 99, 107, 32, 102, 101, 101, 100, 32, 109, 111, 118, 101, 32, 112, 97, 115, 115, 32, 97, 116, 32, 116, 111, 32, 116, 105, 109, 101, 115, 32, 105, 102, 32, 111, 114, 32, 97, 110, 100, 32, 110, 111, 116, 32]
def xb6 : List Int32 := [116, 97, 109, 101, 114, 32, 112, 114, 111, 118, 105, 110, 99, 101, 32, 104, 117, 110, 103, 101, 114, 32, 116, 101, 109, 112, 101, 114, 32, 109, 101, 109, 111, 114, 121, 32, 110, 101, 114, 118, 101, 32, 109, 101, 97, 116, 32, 116, 117, 98, 32, 100, 97, 121, 32, 109, 111, 111, 100, 32, 100, 111, 110, 101, 32, 108, 97, 116, 101, 115, 116, 32, 97, 114, 109, 115, 32]
def lawX (L : Nat) (xs : Nat → Int32) : XE := fun j => match j with
  | 0 => some (L, xs)
  | 1 => some (5, fun i => ([-1, -2, -3, -5, -6] : List Int32).getD i 0)
  | 2 => some (3, fun i => ([999, 10, 9] : List Int32).getD i 0)
  | 4 => some (72, fun i => xb4.getD i 0)
  | 6 => some (77, fun i => xb6.getD i 0)
  | _ => none
def xh0 : XH := ([], fun _ _ => 0, fun _ _ => 0)
def xbs : List (List Int32) := [xb4, xb6]
def xbl : List Nat := [72, 77]
def xtm (i : Nat) : Term := if i = 0 then .string "TamerState$Parser" 90 else .string "TamerState$Parser" 96
set_option maxRecDepth 1000000 in
theorem flat_el : (List.range 2).all (fun i => (List.range (xbl.getD i 0)).all (fun j => decide (Cond.eq (.elem (.field (xtm i) "java/lang/String" "value" "[B") (.int (Int32.ofNat j))) (.int ((xbs.getD i []).getD j 0)) ∈ flatC (Jvm.Cond.and given_1 narrow_1)))) = true := by decide +kernel
set_option maxRecDepth 1000000 in
theorem flat_r : (List.range 5).all (fun j => decide (Cond.eq (.elem (.static "TamerState" "REFUSALS" "[I") (.int (Int32.ofNat j))) (.int (([-1, -2, -3, -5, -6] : List Int32).getD j 0)) ∈ flatC (Jvm.Cond.and given_1 narrow_1))) = true := by decide +kernel
set_option maxRecDepth 1000000 in
theorem flat_t : (List.range 3).all (fun j => decide (Cond.eq (.elem (.static "TamerState" "TOP_TERMS" "[I") (.int (Int32.ofNat j))) (.int (([999, 10, 9] : List Int32).getD j 0)) ∈ flatC (Jvm.Cond.and given_1 narrow_1))) = true := by decide +kernel
theorem two {i : Nat} (h : i < 2) : i = 0 ∨ i = 1 := by omega
theorem arr_of {s : State} {args : Array Value} {ty : FieldType} (h : (Cond.arrayClass ty).before args s = true) (ho : ∀ C, ty ≠ .object C) : ∃ cA, ArrOfT s cA ty ∧ va_RA s cA ty := by
  obtain ⟨c, k, comp, h1, h2, h3⟩ := Cond.arrayClass_spec h
  refine ⟨c, fun N z => ⟨(fun k h => by cases h), k, h2, comp, h3⟩, ?_⟩
  cases ty with
  | object C => exact absurd rfl (ho C)
  | _ => exact h1
theorem arr_ov {s : State} {args : Array Value} {C : String} (h : (Cond.arrayOver (.object C)).before args s = true) : ∃ cA, ArrOfT s cA (.object C) ∧ va_RA s cA (.object C) := by
  obtain ⟨comp, c, k, h1, h2, h3, h4, h5⟩ := Cond.arrayOver_spec h
  exact ⟨c, fun N z => ⟨(fun k h => by cases h), k, h3, comp, h4⟩, k, comp, h3, h4, h1, h5⟩

set_option maxHeartbeats 4000000 in
set_option maxRecDepth 1000000 in
theorem ex_start {s : State} {b L : Nat} {xs : Nat → Int32} (hL : L ≤ 3072) (hts : ∀ w ∈ lw_tbl, w.before #[Value.ref b] s = true) (hX : va_X b L xs s s.heap) (hbl : b < s.heap.size) (hgv : (Jvm.Cond.and given_1 narrow_1).before #[Value.ref b] s = true) : ∃ G : XG, G.1 = s.heap.size ∧ G.2.2.2 0 = some b ∧ va_K G.2.1 xcl (xtl G) s ∧ EX G (lawX L xs) s s.heap := by
  have hs := flat_of_before _ hgv
  have hA : ∀ a : Nat, a < s.heap.size → ¬ (fun q : Nat => s.heap.size ≤ q) a := fun a h => Nat.not_le.mpr h
  have htw : ∀ w ∈ XW, w.before #[Value.ref b] s = true := fun w hw => hts w (List.mem_filter.mp hw).1
  have hcls : ∀ ci : Nat, ∃ (cC : ClassId) (iS : Nat → Nat), ∀ q, xcl[ci]? = some q → u_Kn s q.1 q.2.1 q.2.2 cC iS := by
    intro ci
    cases hq : xcl[ci]? with
    | none => exact ⟨0, fun _ => 0, fun q h => by cases h⟩
    | some q =>
      obtain ⟨cC, iS, hk⟩ := u_known (C := q.1) (T := q.2.1) (N := q.2.2) (n := q.2.2) htw (xcl_w _ _ hq).1 (htw _ (xcl_w _ _ hq).2.2)
      exact ⟨cC, iS, fun q2 h => by cases h; exact hk⟩
  obtain ⟨c0, a0, r0⟩ := arr_of (htw _ xg_aI) (fun C h => by cases h)
  obtain ⟨c1, a1, r1⟩ := arr_of (htw _ xg_aJ) (fun C h => by cases h)
  obtain ⟨c2, a2, r2⟩ := arr_of (htw _ xg_aZ) (fun C h => by cases h)
  obtain ⟨c3, a3, r3⟩ := arr_ov (hts _ xg_aW)
  obtain ⟨c4, a4, r4⟩ := arr_ov (hts _ xg_aP)
  obtain ⟨t1, e1, g1⟩ := va_Tof (args := #[Value.ref b]) (s := s) (tm := .static "TamerState" "REFUSALS" "[I") (ty := .int) (N := 5) (f := fun j => .int (([-1, -2, -3, -5, -6] : List Int32).getD j 0)) (by decide) (hs _ (by decide +kernel)) (va_eqt (hs _ (by decide +kernel))) (fun j hj => va_eqt (hs _ (by
    have := List.all_eq_true.mp flat_r j (List.mem_range.mpr hj)
    exact of_decide_eq_true this))) hA
  obtain ⟨t2, e2, g2⟩ := va_Tof (args := #[Value.ref b]) (s := s) (tm := .static "TamerState" "TOP_TERMS" "[I") (ty := .int) (N := 3) (f := fun j => .int (([999, 10, 9] : List Int32).getD j 0)) (by decide) (hs _ (by decide +kernel)) (va_eqt (hs _ (by decide +kernel))) (fun j hj => va_eqt (hs _ (by
    have := List.all_eq_true.mp flat_t j (List.mem_range.mpr hj)
    exact of_decide_eq_true this))) hA
  have z1 := va_Zref (hts (.laysStatic "TamerState" "REFUSALS" "[I") (by decide +kernel)) (hts (.initialized "TamerState") (by decide +kernel)) e1 hA
  have z2 := va_Zref (hts (.laysStatic "TamerState" "TOP_TERMS" "[I") (by decide +kernel)) (hts (.initialized "TamerState") (by decide +kernel)) e2 hA
  have z3 := va_Zqof (hts (.laysStatic "jdk/internal/util/Preconditions" "SIOOBE_FORMATTER" "Ljava/util/function/BiFunction;") (by decide +kernel)) (hts (.initialized "jdk/internal/util/Preconditions") (by decide +kernel)) (hs _ (by decide +kernel)) hA
  have z4 := va_Zof (hts (.laysStatic "java/lang/String" "COMPACT_STRINGS" "Z") (by decide +kernel)) (hts (.initialized "java/lang/String") (by decide +kernel)) (va_eqi (z := 1) (hs _ (by decide +kernel))) hA
  obtain ⟨adK, adV, hK5, hev⟩ := vk_Sof (args := #[Value.ref b]) (s := s) (N := 2) (tm := xtm) (len := xbl) (byt := xbs) (A := fun q : Nat => s.heap.size ≤ q) (fun i hi => by rcases two hi with rfl | rfl <;> decide)
    (fun i hi => by rcases two hi with rfl | rfl <;> exact hs _ (by decide +kernel)) (fun i hi => by rcases two hi with rfl | rfl <;> exact hs _ (by decide +kernel)) (fun i hi => by rcases two hi with rfl | rfl <;> exact hs _ (by decide +kernel)) (fun i hi => by rcases two hi with rfl | rfl <;> exact hs _ (by decide +kernel))
    (fun i hi j hj => hs _ (by
      have h1 := List.all_eq_true.mp flat_el i (List.mem_range.mpr hi)
      have h2 := List.all_eq_true.mp h1 j (List.mem_range.mpr hj)
      exact of_decide_eq_true h2))
    (fun i j hi hj hne => by
      rcases two hi with rfl | rfl <;> rcases two hj with rfl | rfl
      · exact absurd rfl hne
      · first | exact Or.inl (hs _ (by decide +kernel)) | exact Or.inr (hs _ (by decide +kernel))
      · first | exact Or.inl (hs _ (by decide +kernel)) | exact Or.inr (hs _ (by decide +kernel))
      · exact absurd rfl hne) hA
  obtain ⟨s0, -⟩ := hK5
  obtain ⟨v7, z3⟩ : ∃ v7 : Option Nat, va_Z "jdk/internal/util/Preconditions" "SIOOBE_FORMATTER" "Ljava/util/function/BiFunction;" (va_rf v7) (fun q : Nat => s.heap.size ≤ q) s s.heap := by
    rcases z3 with h | ⟨t, h⟩
    · exact ⟨none, h⟩
    · exact ⟨some t, h⟩
  refine ⟨(s.heap.size, (fun ci => (hcls ci).choose, fun ci => (hcls ci).choose_spec.choose), (fun k => if k = 0 then c0 else if k = 1 then c1 else if k = 2 then c2 else if k = 3 then c3 else c4), (fun j => if j = 0 then some b else if j = 1 then some t1 else if j = 2 then some t2 else if j = 3 then some (adK 0) else if j = 4 then some (adV 0) else if j = 5 then some (adK 1) else if j = 6 then some (adV 1) else v7)), rfl, rfl, ⟨fun ci q hq => (hcls ci).choose_spec.choose_spec q hq, ?_⟩, ?_⟩
  · intro k q hk
    match k, hk with
    | 0, hk => cases hk; exact ⟨a0, r0⟩
    | 1, hk => cases hk; exact ⟨a1, r1⟩
    | 2, hk => cases hk; exact ⟨a2, r2⟩
    | 3, hk => cases hk; exact ⟨a3, r3⟩
    | 4, hk => cases hk; exact ⟨a4, r4⟩
    | k + 5, hk => simp [xtl] at hk
  · refine ⟨fun j q hj => ?_, ⟨t1, rfl, z1⟩, ⟨t2, rfl, z2⟩, z3, z4, fun j hj => ?_, ⟨adK 0, rfl, ?_⟩, ⟨adK 1, rfl, ?_⟩, fun w hw => (va_Nw.of (XN_tab hw) (hts w (List.mem_filter.mp hw).1)), va_AO.of (hts _ xg_aW), va_AO.of (hts _ xg_aP)⟩
    · match j, hj with
      | 0, hj =>
        cases hj
        obtain ⟨scr, k1, k2, k3, k4, k5⟩ := hX
        exact ⟨Or.inl (by decide), b, rfl, scr, k1, k2, k3, by rw [k4]; first | done | exact Nat.le_refl _, by rw [k4], k5, Nat.not_le.mpr hbl⟩
      | 1, hj => cases hj; exact ⟨Or.inl (by decide), t1, rfl, g1⟩
      | 2, hj => cases hj; exact ⟨Or.inl (by decide), t2, rfl, g2⟩
      | 3, hj => cases hj
      | 4, hj => cases hj; exact ⟨Or.inr (Or.inl rfl), adV 0, rfl, (s0 0 (by decide)).2.2.2⟩
      | 5, hj => cases hj
      | 6, hj => cases hj; exact ⟨Or.inr (Or.inr rfl), adV 1, rfl, (s0 1 (by decide)).2.2.2⟩
      | j + 7, hj => cases hj
    · rcases hj with rfl | rfl
      · exact ⟨adK 0, adV 0, rfl, rfl, (s0 0 (by decide)).1, (s0 0 (by decide)).2.1, (s0 0 (by decide)).2.2.1⟩
      · exact ⟨adK 1, adV 1, rfl, rfl, (s0 1 (by decide)).1, (s0 1 (by decide)).2.1, (s0 1 (by decide)).2.2.1⟩
    · exact vk_R.of (A := #[]) (by
        have := hts (.stringRef "TamerState$Parser" 90 xtx3) (by decide +kernel)
        exact this) (by
        have := hev 0 (by decide)
        exact this)
    · exact vk_R.of (A := #[]) (by
        have := hts (.stringRef "TamerState$Parser" 96 xtx5) (by decide +kernel)
        exact this) (by
        have := hev 1 (by decide)
        exact this)
/-- what the small machine must do on every script -/
def LawRuns : Prop := ∀ (L : Nat) (xs : Nat → Int32), L ≤ 3072 → ∃ hf : XH, run (lawX L xs) (call (lawX L xs) xT 2000) false 4 xc0 0 (ent 4 [.inr (.inr (some 1000000))]) [] xh0 = some (some (.inl 1), hf) ∧ hf.1.length ≤ 600000 ∧ slt hf.1 ≤ 7302249
theorem start_of (HL : LawRuns) {p : Program} {e : Env} {s : State} {m : MethodId} {below : List Frame} {meth : Method} {c : Code} (l : Launch) {b L : Nat} {xs : Nat → Int32} (hL : L ≤ 3072) (C0 : lw_At p s m meth c b L xs) : W p l e room_1 s m #[Value.ref b] below meth c s.heap [] 0 0 (lw_Z below #[Value.ref b] s) (entryFrame m ([Value.ref b] : List Value).toArray 4) := by
  obtain ⟨hx, hb, hr, hml, hown, hts, hX, hbl, hlocks, hgv⟩ := id C0
  obtain ⟨G, hG1, hG0, hK, hE⟩ := ex_start hL hts hX hbl hgv
  obtain ⟨hf, hrun, hc1, hc2⟩ := HL L xs hL
  obtain ⟨n, hn⟩ := run_ex hrun
  have htw : ∀ w ∈ XW, w.before #[Value.ref b] s = true := fun w hw => hts w (List.mem_filter.mp hw).1
  have F : Fx p s m #[Value.ref b] meth c code 4 "TamerStateLaw" G (lawX L xs) false 0 := ⟨hx, hb, hml, hown, htw, hK, hE, (fun h => by cases h), by rw [hG1]; rfl⟩
  have hret : RetH p l e room_1 s m #[Value.ref b] below meth c (lw_Z below #[Value.ref b] s) code G 0 0 (some (.inl 1), hf) 4 := by
    intro pc ins ls H locs hd hro hP2 hS2
    have hi : ins = .ireturn := by
      rcases hro with ⟨h, -⟩ | ⟨h, -⟩ | ⟨-, h, -⟩ | ⟨h, -⟩ | ⟨h, -⟩ | ⟨h, -⟩ | ⟨h, -⟩ <;> first | exact h | (exact absurd h (by decide))
    subst hi
    refine va_forget (fun q hq => by rw [← hG1]; exact hS2.2.2 q hq) ?_
    refine W.widen (k := 600000) (n := 7302249) (by exact hc1) (by exact hc2) ?_
    exact lw_ret hx hb hr hlocks hd
  have go := go_run (R := room_1) (d := 2000) F (met_all l G (lawX L xs) xT tab_ok okq_all 2000) okq_all (fun k as h rr hc => call_grow _ _ _ _ _ _ _ hc) ⟨by decide, by decide⟩ ⟨hc1, hc2⟩ (Nat.le_trans hc1 (by decide)) xpk0 xk0 hret n 0
  have e1 : ([.inr (.inr (some 1000000))] : XS).map (cV G) = [Value.ref b] := by
    show [cR G 1000000] = _
    unfold cR
    rw [if_neg (by decide), hG0]
    rfl
  have hl : LH G ((lg_sl ([Value.ref b]) ++ List.replicate (4 - (lg_sl ([Value.ref b])).length) Slot.unset).toArray) 4 (ent 4 [.inr (.inr (some 1000000))]) := by
    have := ent_LH (G := G) (as := [.inr (.inr (some 1000000))]) (n := 4) (by decide)
    rw [e1] at this
    exact this
  rw [lg_entry_eq]
  exact go _ _ _ hn _ s.heap [] hl (Nat.zero_le _) (Nat.zero_le _) (fun k q h => by simp [xh0, cW] at h) va_S.rf
