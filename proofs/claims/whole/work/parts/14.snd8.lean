/-- what a method asks at its start, and tells at its end -/
def Pcx (G : XG) (X : XE) (as : XS) (h : XH) : Array Value → State → Prop := fun v U => v = (as.map (cV G)).toArray ∧ va_P G.2.1 xcl (cW G h) U.heap ∧ U.heap.size = G.1 + h.1.length ∧ va_K G.2.1 xcl (xtl G) U ∧ EX G X U U.heap
def Qcx (G : XG) (r : XR) : Array Value → State → Outcome → State → Prop := fun _ st oc t => oc = .returned (r.1.map (cV G)) ∧ va_P G.2.1 xcl (cW G r.2) t.heap ∧ va_F (xA G) st t
/-- the contracts of what may be called, d frames deep -/
def McL (l : Launch) (G : XG) (X : XE) (d : Nat) (cl : XCl) : Prop := ∀ (k : Nat) (as : XS) (h : XH) (r : XR), cl k as h = some r → r.2.1.length ≤ 1000000 → ∃ q : XMe, xme[k]? = some q ∧
  Met l q.1 (.code q.1 q.2.1 q.2.2.1 q.2.2.2.1 :: XW) { frames := d, cells := r.2.1.length - h.1.length, slots := slt r.2.1 - slt h.1, locals := 40 * d } (Pcx G X as h) (Qcx G r) (r.2.1.length - h.1.length) (slt r.2.1 - slt h.1) (xA G)
section Calls9
variable {p : Program} {l : Launch} {e : Env} {R : Room} {s : State} {m : MethodId} {args : Array Value} {below : List Frame} {meth : Method} {c : Code} {Q : State → Prop} {cc : ByteArray} {nL : Nat} {own : String} {G : XG} {X : XE} {ini : Bool} {n0 s0 : Nat} {r : XR} {pc : Nat} {kn : XL → XS → XH → Option XR} {kj : Nat → XL → XS → XH → Option XR} {e2 : XP} {idx : Nat} {d : Nat} {cl : XCl}
theorem Pcx_blind {as : XS} {h : XH} : FrameBlind (Pcx G X as h) := by
  intro a U g mk hp
  obtain ⟨h1, h2, h3, h4, h5⟩ := hp
  exact ⟨h1, h2, h3, va_K.moved (u := U) (U := U.calling g mk a) (Vm.Alike.refl U.vm) h4, EX.same (s := U) (U := U.calling g mk a) rfl h5⟩
theorem good_XW {q : XMe} (hq : okQ q) : GoodIn XW (.code q.1 q.2.1 q.2.2.1 q.2.2.2.1 :: XW) := by
  have hw : ∀ w ∈ XW, w ∈ XW ∧ ((w.onTables && w.keeps) = true ∨ ∃ ty, w = .arrayClass ty) := fun w hw => ⟨hw, good_of_word (List.mem_filter.mp hw).2⟩
  intro w hm
  rcases List.mem_cons.mp hm with rfl | hm
  · exact hw _ hq.2
  · exact hw _ hm
theorem size_of (F : Fx p s m args meth c cc nL own G X ini n0) {h : XH} {H : Heap} {locs : List Loc} (hP : va_P G.2.1 xcl (cW G h) H) (hS : va_S (xA G) s.heap H locs) (h0 : n0 ≤ h.1.length) (hz : H.size ≤ s.heap.size + (h.1.length - n0)) : H.size = G.1 + h.1.length := by
  have h3 := F.2.2.2.2.2.2.2.2
  have h4 := hS.1
  rcases Nat.eq_zero_or_pos h.1.length with hl | hl
  · omega
  · obtain ⟨cx, hc⟩ : ∃ cx, h.1[h.1.length - 1]? = some cx := ⟨_, List.getElem?_eq_getElem (by omega)⟩
    have := (hP _ _ (cW_get hc)).lt
    dsimp only at this
    omega
/-- behind a call -/
theorem x_run {H : Heap} {locs : List Loc} {cells slots mc ms : Nat} {ls : Array Slot} {st0 rest : List Value} {rr : XR} {a : Array Value} (hr : va_Run p l e R s m args below meth c H locs cells slots mc ms (F0 m pc ls st0) rest (Qcx G rr a) (xA G)) (hS : va_S (xA G) s.heap H locs)
    (kk : ∀ (H1 : Heap) (locs1 : List Loc), va_P G.2.1 xcl (cW G rr.2) H1 → va_S (xA G) s.heap H1 locs1 → W p l e R s m args below meth c H1 locs1 (cells + mc) (slots + ms) Q (F0 m (pc + 3) ls ((rr.1.map (cV G)).toList ++ rest))) : W p l e R s m args below meth c H locs cells slots Q (F0 m pc ls st0) := by
  intro T hT Z
  obtain ⟨v, st₀, t, T', L, h0, X', hL, e1, e2, ⟨hv, hp, hz, hk⟩, st⟩ := hr T hT Z
  cases hv
  rw [h0] at hz hk
  obtain ⟨t2, a1, b1⟩ := kk T'.heap (locs ++ L) (by rw [e1]; exact hp)
    ⟨Nat.le_trans hS.1 (by rw [e1]; exact hz), fun q h1 h2 => by rw [e1, hk q (Nat.lt_of_lt_of_le h1 hS.1) h2]; exact hS.2.1 q h1 h2, fun q hq => by
      rcases List.mem_append.mp hq with h | h
      · exact hS.2.2 q h
      · exact hL q h⟩ T' rfl X'
  exact ⟨t2, st t2 a1, b1⟩
theorem xcall_inv {rk : Nat} {o : Option XR} {q : XS} {k : XS → XH → Option XR} {r : XR} (h : xcall rk o q k = some r) : ∃ rr : XR, o = some rr ∧ k (rr.1.toList ++ q) rr.2 = some r := by
  unfold xcall at h
  split at h
  · unfold bV at h
    split at h
    · exact ⟨_, rfl, h⟩
    · cases h
  · unfold bI at h
    split at h
    · exact ⟨_, rfl, h⟩
    · cases h
  · unfold bL at h
    split at h
    · exact ⟨_, rfl, h⟩
    · cases h
  · unfold bR at h
    split at h
    · exact ⟨_, rfl, h⟩
    · cases h
theorem popN_inv : ∀ {n : Nat} {st as as2 q : XS}, popN n st as = some (as2, q) → ∃ bs : XS, as2 = bs ++ as ∧ st = bs.reverse ++ q ∧ bs.length = n := by
  intro n
  induction n with
  | zero =>
    intro st as as2 q h
    simp only [popN, Option.some.injEq, Prod.mk.injEq] at h
    exact ⟨[], by simp [h.1], by simp [h.2], rfl⟩
  | succ n ih =>
    intro st as as2 q h
    cases st with
    | nil => simp [popN] at h
    | cons v t =>
      simp only [popN] at h
      obtain ⟨bs, h1, h2, h3⟩ := ih h
      exact ⟨bs ++ [v], by rw [h1]; simp, by rw [h2]; simp, by simp [h3]⟩
theorem map_opt (o : Option XV) : (o.map (cV G)).toList = o.toList.map (cV G) := by cases o <;> rfl
/-- the walk goes on behind a call, whatever its kind -/
theorem w_call (hlen : r.2.1.length ≤ 1000000) (hg : ∀ L st h, kn L st h = some r → hle h r.2) (hn : Go p l e R s m args below meth c Q nL G n0 s0 r (pc + 3) kn) {H : Heap} {locs : List Loc} {h : XH} {ls : Array Slot} {L : XL} {q : XS} {rr : XR} {st0 : List Value} {a : Array Value} (hL : LH G ls nL L) (h0 : n0 ≤ h.1.length) (h1 : s0 ≤ slt h.1) (hgr : hle h rr.2) (hS : va_S (xA G) s.heap H locs) (hk : kn L (rr.1.toList ++ q) rr.2 = some r)
    (hr : va_Run p l e R s m args below meth c H locs (h.1.length - n0) (slt h.1 - s0) (rr.2.1.length - h.1.length) (slt rr.2.1 - slt h.1) (F0 m pc ls st0) (q.map (cV G)) (Qcx G rr a) (xA G)) : W p l e R s m args below meth c H locs (h.1.length - n0) (slt h.1 - s0) Q (F0 m pc ls st0) := by
  refine x_run hr hS (fun H1 locs1 q1 q3 => ?_)
  have a1 := hgr.1
  have a2 := hgr.2
  have fin := hn _ _ _ hk ls H1 locs1 hL (by omega) (by omega) q1 q3
  rw [show h.1.length - n0 + (rr.2.1.length - h.1.length) = rr.2.1.length - n0 by omega, show slt h.1 - s0 + (slt rr.2.1 - slt h.1) = slt rr.2.1 - s0 by omega, map_opt, ← List.map_append]
  exact fin
theorem okM_facts {q : XMe} (hq : okQ q) : Cond.code q.1 q.2.1 q.2.2.1 q.2.2.2.1 ∈ XW ∧ Cond.initialized q.1.cls ∈ XW ∧ plainName q.1.cls = true ∧ q.1.cls ≠ "java/lang/invoke/MethodHandle" ∧ q.1.cls ≠ "java/lang/invoke/VarHandle" ∧ q.2.2.1 ≤ 20 := by
  obtain ⟨hq, hc⟩ := hq
  unfold okM at hq
  simp only [Bool.and_eq_true, decide_eq_true_eq] at hq
  exact ⟨hc, xat_in hq.1.1.1.1, hq.1.1.1.2, hq.1.1.2, hq.1.2, hq.2⟩
theorem npar_eq {q : XMe} {n : Nat} (h : npar q n = true) : (parseMethodDescriptor q.1.desc).map (fun d => d.parameters.length) = some n := by
  unfold npar at h
  exact of_decide_eq_true h
theorem npar_sig {q : XMe} {n : Nat} (h : npar q n = true) : ∀ sig, parseMethodDescriptor q.1.desc = some sig → n = sig.parameters.length := fun sig hs => by
  have h2 := npar_eq h
  rw [hs] at h2
  exact (Option.some.inj h2).symm
theorem pre_of (F : Fx p s m args meth c cc nL own G X ini n0) {H : Heap} {locs : List Loc} {h : XH} {as : XS} (hP : va_P G.2.1 xcl (cW G h) H) (hS : va_S (xA G) s.heap H locs) (hz : H.size = G.1 + h.1.length) : ∀ U : State, U.heap = H → s.WarmedH U.vm → Pcx G X as h (as.map (cV G)).toArray U := by
  intro U hU hW
  refine ⟨rfl, by rw [hU]; exact hP, by rw [hU]; exact hz, va_K.moved hW.alike F.2.2.2.2.2.1, ?_⟩
  rw [hU]
  exact (F.2.2.2.2.2.2.1.kept (fun a h1 h2 => hS.2.1 a h1 h2)).warm hW
theorem cn_of {R : Room} {q : XMe} {idx n d : Nat} {own : String} (hq : okQ q) (hts : ∀ w ∈ XW, w.before args s = true) (hl : va_Nw (.methodLinkNest own idx q.1 "TamerState") s) (hnp : npar q n = true) (hRd : d + 1 ≤ R.frames ∧ 40 * (d + 1) ≤ R.locals) (mc ms : Nat) :
    va_CN R s args own idx q.1 "TamerState" q.2.1 q.2.2.1 q.2.2.2.1 (.code q.1 q.2.1 q.2.2.1 q.2.2.2.1 :: XW) { frames := d, cells := mc, slots := ms, locals := 40 * d } mc ms n := by
  obtain ⟨g1, g2, g3, g4, g5, g6⟩ := okM_facts hq
  exact va_cnB n hts (good_XW hq) rfl rfl rfl hl (hts _ g2) ⟨g4, g5, npar_eq hnp⟩ ⟨hRd.1, by show 8 + (q.2.2.1 + 11) + 40 * d ≤ R.locals; omega⟩
theorem cb_of {R : Room} {q : XMe} {idx n d : Nat} {own : String} (hq : okQ q) (hts : ∀ w ∈ XW, w.before args s = true) (hl : Cond.methodLink own idx q.1 ∈ XW) (hnp : npar q n = true) (hRd : d + 1 ≤ R.frames ∧ 40 * (d + 1) ≤ R.locals) (mc ms : Nat) :
    CallB R s args own idx q.1 q.2.1 q.2.2.1 q.2.2.2.1 (.code q.1 q.2.1 q.2.2.1 q.2.2.2.1 :: XW) { frames := d, cells := mc, slots := ms, locals := 40 * d } mc ms n := by
  obtain ⟨g1, g2, g3, g4, g5, g6⟩ := okM_facts hq
  exact callB_of n hts (good_XW hq) rfl rfl rfl (hts _ g2) (hts _ hl) ⟨g4, g5, npar_eq hnp⟩ ⟨hRd.1, by show 8 + (q.2.2.1 + 11) + 40 * d ≤ R.locals; omega⟩
theorem go_calls (F : Fx p s m args meth c cc nL own G X ini n0) (hM : McL l G X d cl) (hok : ∀ (k : Nat) (q : XMe), xme[k]? = some q → 0 < k → okQ q) (hclg : ∀ k as h rr, cl k as h = some rr → hle h rr.2) (hRd : d + 1 ≤ R.frames ∧ 40 * (d + 1) ≤ R.locals) (hR : r.2.1.length - n0 ≤ R.cells ∧ slt r.2.1 - s0 ≤ R.slots) (hlen : r.2.1.length ≤ 1000000) (hg : ∀ L st h, kn L st h = some r → hle h r.2) (hp : e2.1 = 99 ∨ ∃ q, okP own (idx, e2, q) = true) (he : e2.1 = 4) (hd : decode cc pc = .ok (.invokestatic idx, 3)) (hn : Go p l e R s m args below meth c Q nL G n0 s0 r (pc + 3) kn) :
    Go p l e R s m args below meth c Q nL G n0 s0 r pc (fun L st h => match popN e2.2.2.1 st [] with
      | some (as, q) => if xcats q ≤ 8 then xcall e2.2.2.2 (cl e2.2.1 as h) q (fun q2 h2 => kn L q2 h2) else none
      | none => none) := by
  intro L st h hr ls H locs hL h0 h1 hP hS
  obtain ⟨qq, hp⟩ : ∃ q, okP own (idx, e2, q) = true := hp.resolve_left (by omega)
  dsimp only at hr
  split at hr
  · rename_i as q hpop
    split at hr
    · rename_i hq8
      obtain ⟨rr, hcl, hk⟩ := xcall_inv hr
      obtain ⟨bs, hb1, hb2, hb3⟩ := popN_inv hpop
      rw [List.append_nil] at hb1
      subst hb1
      have hgr := hclg _ _ _ _ hcl
      have hg2 := hg _ _ _ hk
      obtain ⟨qm, hqm, hmet⟩ := hM _ _ _ _ hcl (Nat.le_trans hg2.1 hlen)
      unfold okP at hp
      dsimp only at hp
      rw [if_neg (by omega), if_neg (by omega), if_neg (by omega), if_pos he] at hp
      simp only [hqm, Bool.and_eq_true, Bool.or_eq_true, decide_eq_true_eq] at hp
      obtain ⟨⟨⟨hk0, hlink⟩, hstat⟩, hnp⟩ := hp
      have hqok := hok _ _ hqm hk0
      refine w_size (fun hz => ?_)
      have hsz := size_of F hP hS h0 hz
      have a1 := hgr.1
      have a2 := hgr.2
      have b1 := hg2.1
      have b2 := hg2.2
      refine w_call hlen hg hn hL h0 h1 hgr hS hk (a := (as.map (cV G)).toArray) ?_
      have hst : (st.map (cV G)) = (as.map (cV G)).reverse ++ q.map (cV G) := by rw [hb2, List.map_append, List.map_reverse]
      rcases hlink with hlink | hlink
      · exact va_runS (As := as.map (cV G)) ⟨F.1, F.2.1, F.2.2.1, F.2.2.2.1, F.2.2.2.2.1⟩ hmet ⟨cb_of hqok F.2.2.2.2.1 (xat_in hlink) hnp hRd _ _, F.2.2.2.2.1 _ (xat_in hstat)⟩ ⟨Pcx_blind, pre_of F hP hS hsz⟩ rfl (by rw [List.length_map]; exact hb3) hL.1 hst (lv_room (by rw [cats_eq]; exact hq8)) hd ⟨by omega, by omega⟩
      · exact va_runSN (As := as.map (cV G)) ⟨F.1, F.2.1, F.2.2.1, F.2.2.2.1, F.2.2.2.2.1⟩ hmet ⟨cn_of hqok F.2.2.2.2.1 (F.2.2.2.2.2.2.1.2.2.2.2.2.2.2.2.1 _ (xatN_in hlink)) hnp hRd _ _, F.2.2.2.2.1 _ (xat_in hstat), trivial⟩ ⟨Pcx_blind, pre_of F hP hS hsz⟩ rfl (by rw [List.length_map]; exact hb3) hL.1 hst (lv_room (by rw [cats_eq]; exact hq8)) hd ⟨by omega, by omega⟩
    · cases hr
  · cases hr
end Calls9
