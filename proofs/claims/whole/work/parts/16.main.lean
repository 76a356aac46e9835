/-- an instruction that ends a method with an answer -/
def ROK (rk : Nat) (i : Instr) (v : Option XV) : Prop :=
  (rk = 0 ∧ i = .return_ ∧ v = none) ∨ (rk = 1 ∧ i = .ireturn ∧ ∃ x, v = some (.inl x)) ∨ (rk = 4 ∧ i = .ireturn ∧ ∃ x, v = some (.inl x) ∧ is01 x = true) ∨ (rk = 5 ∧ i = .ireturn ∧ ∃ x, v = some (.inl x) ∧ (x.toUInt32 % 65536).toInt32 = x) ∨ (rk = 6 ∧ i = .ireturn ∧ ∃ x, v = some (.inl x) ∧ x.toInt8.toInt32 = x) ∨ (rk = 2 ∧ i = .lreturn ∧ ∃ x, v = some (.inr (.inl x))) ∨ (rk = 3 ∧ i = .areturn ∧ ∃ x, v = some (.inr (.inr x)))
def RetH (p : Program) (l : Launch) (e : Env) (R : Room) (s : State) (m : MethodId) (args : Array Value) (below : List Frame) (meth : Method) (c : Code) (Q : State → Prop) (cc : ByteArray) (G : XG) (n0 s0 : Nat) (r : XR) (rk : Nat) : Prop := ∀ (pc : Nat) (ins : Instr) (ls : Array Slot) (H : Heap) (locs : List Loc), decode cc pc = .ok (ins, 1) → ROK rk ins r.1 → va_P G.2.1 xcl (cW G r.2) H → va_S (xA G) s.heap H locs → W p l e R s m args below meth c H locs (r.2.1.length - n0) (slt r.2.1 - s0) Q (F0 m pc ls (r.1.toList.map (cV G)))
section Main
variable {p : Program} {l : Launch} {e : Env} {R : Room} {s : State} {m : MethodId} {args : Array Value} {below : List Frame} {meth : Method} {c : Code} {Q : State → Prop} {cc : ByteArray} {nL : Nat} {own : String} {G : XG} {X : XE} {ini : Bool} {n0 s0 : Nat} {r : XR} {pc : Nat} {kn : XL → XS → XH → Option XR} {kj : Nat → XL → XS → XH → Option XR} {e2 : XP} {idx : Nat} {d : Nat} {cl : XCl} {rk : Nat}
theorem go_ireturn (hret : RetH p l e R s m args below meth c Q cc G n0 s0 r rk) (hd : decode cc pc = .ok (.ireturn, 1)) : Go p l e R s m args below meth c Q nL G n0 s0 r pc (fun L st h => stepK X cl ini rk .ireturn e2 pc L st h kn kj some) := by
  intro L st h hr ls H locs hL h0 h1 hP hS
  simp only [stepK] at hr
  split at hr
  · rename_i x
    split at hr
    · cases hr
      exact hret pc _ ls H locs hd (Or.inr (Or.inl ⟨rfl, rfl, x, rfl⟩)) hP hS
    · split at hr
      · rename_i hq
        cases hr
        exact hret pc _ ls H locs hd (Or.inr (Or.inr (Or.inl ⟨rfl, rfl, x, rfl, hq⟩))) hP hS
      · cases hr
    · split at hr
      · rename_i hq
        cases hr
        exact hret pc _ ls H locs hd (Or.inr (Or.inr (Or.inr (Or.inl ⟨rfl, rfl, x, rfl, hq⟩)))) hP hS
      · cases hr
    · split at hr
      · rename_i hq
        cases hr
        exact hret pc _ ls H locs hd (Or.inr (Or.inr (Or.inr (Or.inr (Or.inl ⟨rfl, rfl, x, rfl, hq⟩))))) hP hS
      · cases hr
    · cases hr
  · cases hr
theorem go_lreturn (hret : RetH p l e R s m args below meth c Q cc G n0 s0 r rk) (hd : decode cc pc = .ok (.lreturn, 1)) : Go p l e R s m args below meth c Q nL G n0 s0 r pc (fun _ st h => match st with
    | [.inr (.inl x)] => if rk = 2 then some (some (.inr (.inl x)), h) else none
    | _ => none) := by
  intro L st h hr ls H locs hL h0 h1 hP hS
  dsimp only at hr
  split at hr
  · rename_i x
    split at hr
    · rename_i hq
      cases hr
      exact hret pc _ ls H locs hd (Or.inr (Or.inr (Or.inr (Or.inr (Or.inr (Or.inl ⟨hq, rfl, x, rfl⟩)))))) hP hS
    · cases hr
  · cases hr
theorem go_areturn (hret : RetH p l e R s m args below meth c Q cc G n0 s0 r rk) (hd : decode cc pc = .ok (.areturn, 1)) : Go p l e R s m args below meth c Q nL G n0 s0 r pc (fun _ st h => match st with
    | [.inr (.inr x)] => if rk = 3 then some (some (.inr (.inr x)), h) else none
    | _ => none) := by
  intro L st h hr ls H locs hL h0 h1 hP hS
  dsimp only at hr
  split at hr
  · rename_i x
    split at hr
    · rename_i hq
      cases hr
      exact hret pc _ ls H locs hd (Or.inr (Or.inr (Or.inr (Or.inr (Or.inr (Or.inr ⟨hq, rfl, x, rfl⟩)))))) hP hS
    · cases hr
  · cases hr
theorem go_return (hret : RetH p l e R s m args below meth c Q cc G n0 s0 r rk) (hd : decode cc pc = .ok (.return_, 1)) : Go p l e R s m args below meth c Q nL G n0 s0 r pc (fun _ st h => match st with
    | [] => if rk = 0 then some (none, h) else none
    | _ => none) := by
  intro L st h hr ls H locs hL h0 h1 hP hS
  dsimp only at hr
  split at hr
  · split at hr
    · rename_i hq
      cases hr
      exact hret pc _ ls H locs hd (Or.inl ⟨hq, rfl, rfl⟩) hP hS
    · cases hr
  · cases hr
theorem inP_ok {P : List (Nat × XP × Nat × Nat)} (hP : ∀ r ∈ P, okP own r = true) (h : inP P idx e2 = true) : e2.1 = 99 ∨ ∃ q, okP own (idx, e2, q) = true := by
  unfold inP at h
  simp only [Bool.or_eq_true, decide_eq_true_eq, List.any_eq_true, Bool.and_eq_true] at h
  rcases h with h | ⟨⟨a, b, q⟩, h1, h2, h3⟩
  · exact Or.inl h
  · have h2 : a = idx := h2
    have h3 : b = e2 := h3
    subst h2; subst h3
    exact Or.inr ⟨q, hP _ h1⟩
set_option maxHeartbeats 4000000 in
theorem go_step (F : Fx p s m args meth c cc nL own G X ini n0) (hM : McL l G X d cl) (hok : ∀ (k : Nat) (q : XMe), xme[k]? = some q → 0 < k → okQ q) (hclg : ∀ k as h rr, cl k as h = some rr → hle h rr.2) (hRd : d + 1 ≤ R.frames ∧ 40 * (d + 1) ≤ R.locals) (hR : r.2.1.length - n0 ≤ R.cells ∧ slt r.2.1 - s0 ≤ R.slots) (hlen : r.2.1.length ≤ 1000000) (hg : ∀ L st h, kn L st h = some r → hle h r.2)
    {P : List (Nat × XP × Nat × Nat)} (hPk : ∀ r ∈ P, okP own r = true) {i : Instr} {n : Nat} (hd : decode cc pc = .ok (i, n)) (hil : ilen i n = n) (hoi : okI P own pc (i, n, e2) = true) (hret : RetH p l e R s m args below meth c Q cc G n0 s0 r rk) (hn : Go p l e R s m args below meth c Q nL G n0 s0 r (pc + n) kn) (hj : ∀ t, Go p l e R s m args below meth c Q nL G n0 s0 r t (kj t)) :
    Go p l e R s m args below meth c Q nL G n0 s0 r pc (fun L st h => stepK X cl ini rk i e2 pc L st h kn kj some) := by
  have hRf : 1 ≤ R.frames ∧ 40 ≤ R.locals := by omega
  cases i
  case aload k =>
    have hil := hil.symm; simp only [ilen] at hil; subst hil
    exact go_aload F hd hn
  case aload_n k =>
    have hil := hil.symm; simp only [ilen] at hil; subst hil
    exact go_aload_n F hd hn
  case iload k =>
    have hil := hil.symm; simp only [ilen] at hil; subst hil
    exact go_iload F hd hn
  case iload_n k =>
    have hil := hil.symm; simp only [ilen] at hil; subst hil
    exact go_iload_n F hd hn
  case lload k =>
    have hil := hil.symm; simp only [ilen] at hil; subst hil
    exact go_lload F hd hn
  case lload_n k =>
    have hil := hil.symm; simp only [ilen] at hil; subst hil
    exact go_lload_n F hd hn
  case astore k =>
    have hil := hil.symm; simp only [ilen] at hil; subst hil
    exact go_astore F hd hn
  case astore_n k =>
    have hil := hil.symm; simp only [ilen] at hil; subst hil
    exact go_astore_n F hd hn
  case istore k =>
    have hil := hil.symm; simp only [ilen] at hil; subst hil
    exact go_istore F hd hn
  case istore_n k =>
    have hil := hil.symm; simp only [ilen] at hil; subst hil
    exact go_istore_n F hd hn
  case lstore k =>
    have hil := hil.symm; simp only [ilen] at hil; subst hil
    exact go_lstore F hd hn
  case lstore_n k =>
    have hil := hil.symm; simp only [ilen] at hil; subst hil
    exact go_lstore_n F hd hn
  case iinc k v =>
    have hil := hil.symm; simp only [ilen] at hil; subst hil
    exact go_iinc F (of_decide_eq_true hoi) hd hn
  case aconst_null =>
    have hil := hil.symm; simp only [ilen] at hil; subst hil
    exact go_null F hd hn
  case iconst v =>
    have hil := hil.symm; simp only [ilen] at hil; subst hil
    exact go_iconst F (of_decide_eq_true hoi) hd hn
  case bipush v =>
    have hil := hil.symm; simp only [ilen] at hil; subst hil
    exact go_bipush F (of_decide_eq_true hoi) hd hn
  case sipush v =>
    have hil := hil.symm; simp only [ilen] at hil; subst hil
    exact go_sipush F (of_decide_eq_true hoi) hd hn
  case lconst v =>
    have hil := hil.symm; simp only [ilen] at hil; subst hil
    exact go_lconst F hd hn
  case iadd =>
    have hil := hil.symm; simp only [ilen] at hil; subst hil
    exact go_iadd F hd hn
  case isub =>
    have hil := hil.symm; simp only [ilen] at hil; subst hil
    exact go_isub F hd hn
  case imul =>
    have hil := hil.symm; simp only [ilen] at hil; subst hil
    exact go_imul F hd hn
  case iand =>
    have hil := hil.symm; simp only [ilen] at hil; subst hil
    exact go_iand F hd hn
  case ior =>
    have hil := hil.symm; simp only [ilen] at hil; subst hil
    exact go_ior F hd hn
  case ixor =>
    have hil := hil.symm; simp only [ilen] at hil; subst hil
    exact go_ixor F hd hn
  case ishl =>
    have hil := hil.symm; simp only [ilen] at hil; subst hil
    exact go_ishl F hd hn
  case ishr =>
    have hil := hil.symm; simp only [ilen] at hil; subst hil
    exact go_ishr F hd hn
  case iushr =>
    have hil := hil.symm; simp only [ilen] at hil; subst hil
    exact go_iushr F hd hn
  case idiv =>
    have hil := hil.symm; simp only [ilen] at hil; subst hil
    exact go_idiv F hd hn
  case irem =>
    have hil := hil.symm; simp only [ilen] at hil; subst hil
    exact go_irem F hd hn
  case ldiv =>
    have hil := hil.symm; simp only [ilen] at hil; subst hil
    exact go_ldiv F hd hn
  case lrem =>
    have hil := hil.symm; simp only [ilen] at hil; subst hil
    exact go_lrem F hd hn
  case ladd =>
    have hil := hil.symm; simp only [ilen] at hil; subst hil
    exact go_ladd F hd hn
  case lsub =>
    have hil := hil.symm; simp only [ilen] at hil; subst hil
    exact go_lsub F hd hn
  case lmul =>
    have hil := hil.symm; simp only [ilen] at hil; subst hil
    exact go_lmul F hd hn
  case lcmp =>
    have hil := hil.symm; simp only [ilen] at hil; subst hil
    exact go_lcmp F hd hn
  case ineg =>
    have hil := hil.symm; simp only [ilen] at hil; subst hil
    exact go_ineg F hd hn
  case i2l =>
    have hil := hil.symm; simp only [ilen] at hil; subst hil
    exact go_i2l F hd hn
  case i2c =>
    have hil := hil.symm; simp only [ilen] at hil; subst hil
    exact go_i2c F hd hn
  case l2i =>
    have hil := hil.symm; simp only [ilen] at hil; subst hil
    exact go_l2i F hd hn
  case lshl =>
    have hil := hil.symm; simp only [ilen] at hil; subst hil
    exact go_lshl F hd hn
  case dup =>
    have hil := hil.symm; simp only [ilen] at hil; subst hil
    exact go_dup F hd hn
  case pop =>
    have hil := hil.symm; simp only [ilen] at hil; subst hil
    exact go_pop F hd hn
  case dup2 =>
    have hil := hil.symm; simp only [ilen] at hil; subst hil
    exact go_dup2 F hd hn
  case ldc k =>
    have hil := hil.symm; simp only [ilen] at hil; subst hil
    exact go_ldc F (inP_ok hPk hoi) hd hn
  case ldc_w k =>
    have hil := hil.symm; simp only [ilen] at hil; subst hil
    exact go_ldcw F (inP_ok hPk hoi) hd hn
  case ldc2_w k =>
    have hil := hil.symm; simp only [ilen] at hil; subst hil
    exact go_ldc2 F (inP_ok hPk hoi) hd hn
  case getfield k =>
    have hil := hil.symm; simp only [ilen] at hil; subst hil
    exact go_getfield F hlen hg (inP_ok hPk hoi) hd hn
  case putfield k =>
    have hil := hil.symm; simp only [ilen] at hil; subst hil
    simp only [okI, Bool.and_eq_true, Bool.or_eq_true, decide_eq_true_eq] at hoi
    exact go_putfield F hlen hg (inP_ok hPk hoi.1) hoi.2 hd hn
  case getstatic k =>
    have hil := hil.symm; simp only [ilen] at hil; subst hil
    exact go_getstatic F (inP_ok hPk hoi) hd hn
  case iaload =>
    have hil := hil.symm; simp only [ilen] at hil; subst hil
    exact go_ild F hlen hg (Or.inl ⟨rfl, rfl⟩) hd hn
  case baload =>
    have hil := hil.symm; simp only [ilen] at hil; subst hil
    exact go_ild F hlen hg (Or.inr ⟨rfl, rfl⟩) hd hn
  case laload =>
    have hil := hil.symm; simp only [ilen] at hil; subst hil
    exact go_laload F hlen hg hd hn
  case aaload =>
    have hil := hil.symm; simp only [ilen] at hil; subst hil
    exact go_aaload F hlen hg hd hn
  case iastore =>
    have hil := hil.symm; simp only [ilen] at hil; subst hil
    exact go_iastore F hlen hg hd hn
  case bastore =>
    have hil := hil.symm; simp only [ilen] at hil; subst hil
    exact go_bastore F hlen hg hd hn
  case lastore =>
    have hil := hil.symm; simp only [ilen] at hil; subst hil
    exact go_lastore F hlen hg hd hn
  case aastore =>
    have hil := hil.symm; simp only [ilen] at hil; subst hil
    exact go_aastore F hlen hg hd hn
  case arraylength =>
    have hil := hil.symm; simp only [ilen] at hil; subst hil
    exact go_alen F hlen hg hd hn
  case newarray t =>
    have hil := hil.symm; simp only [ilen] at hil; subst hil
    exact go_newarray F hR hlen hg hd hn
  case anewarray k =>
    have hil := hil.symm; simp only [ilen] at hil; subst hil
    exact go_anewarray F hR hlen hg (inP_ok hPk hoi) hd hn
  case new k =>
    have hil := hil.symm; simp only [ilen] at hil; subst hil
    exact go_new F hR hlen hg (inP_ok hPk hoi) hd hn
  case checkcast k =>
    have hil := hil.symm; simp only [ilen] at hil; subst hil
    exact go_cast F hlen hg (inP_ok hPk hoi) hd hn
  case goto f =>
    have hil := hil.symm; simp only [ilen] at hil; subst hil
    exact go_goto F (of_decide_eq_true hoi) hd hn hj
  case ifCond cd f =>
    have hil := hil.symm; simp only [ilen] at hil; subst hil
    exact go_ifCond F (of_decide_eq_true hoi) hd hn hj
  case if_icmp cd f =>
    have hil := hil.symm; simp only [ilen] at hil; subst hil
    exact go_icmp F (of_decide_eq_true hoi) hd hn hj
  case ifnonnull f =>
    have hil := hil.symm; simp only [ilen] at hil; subst hil
    exact go_ifnonnull F (of_decide_eq_true hoi) hd hn hj
  case tableswitch d0 lo hi os =>
    simp only [okI, Bool.and_eq_true, decide_eq_true_eq, List.all_eq_true] at hoi
    exact go_tsw F hd ⟨hoi.1.1, hoi.1.2, hoi.2⟩ hj
  case invokestatic k =>
    have hil := hil.symm; simp only [ilen] at hil; subst hil
    exact go_stat F hRf hR hlen hg (inP_ok hPk hoi) hd hn _ (fun he => go_calls F hM hok hclg hRd hR hlen hg (inP_ok hPk hoi) he hd hn)
  case invokevirtual k =>
    have hil := hil.symm; simp only [ilen] at hil; subst hil
    exact go_virt F hM hok hclg hRd hR hlen hg (inP_ok hPk hoi) hd hn
  case invokespecial k =>
    have hil := hil.symm; simp only [ilen] at hil; subst hil
    exact go_spec F hM hok hclg hRd hR hlen hg (inP_ok hPk hoi) hd hn
  case ireturn =>
    have hil := hil.symm; simp only [ilen] at hil; subst hil
    exact go_ireturn hret hd
  case lreturn =>
    have hil := hil.symm; simp only [ilen] at hil; subst hil
    exact go_lreturn hret hd
  case areturn =>
    have hil := hil.symm; simp only [ilen] at hil; subst hil
    exact go_areturn hret hd
  case return_ =>
    have hil := hil.symm; simp only [ilen] at hil; subst hil
    exact go_return hret hd
  all_goals (intro L st h hr; cases hr)
theorem go_run (F : Fx p s m args meth c cc nL own G X ini n0) (hM : McL l G X d cl) (hok : ∀ (k : Nat) (q : XMe), xme[k]? = some q → 0 < k → okQ q) (hclg : ∀ k as h rr, cl k as h = some rr → hle h rr.2) (hRd : d + 1 ≤ R.frames ∧ 40 * (d + 1) ≤ R.locals) (hR : r.2.1.length - n0 ≤ R.cells ∧ slt r.2.1 - s0 ≤ R.slots) (hlen : r.2.1.length ≤ 1000000)
    {P : List (Nat × XP × Nat × Nat)} (hPk : ∀ r ∈ P, okP own r = true) {C : List XI} (hC : chkC P own cc 0 C = true) (hret : RetH p l e R s m args below meth c Q cc G n0 s0 r rk) :
    ∀ (n pc : Nat), Go p l e R s m args below meth c Q nL G n0 s0 r pc (fun L st h => runF X cl ini rk C n pc L st h) := by
  intro n
  induction n with
  | zero => intro pc L st h hr; cases hr
  | succ n ih =>
    intro pc L st h hr
    dsimp only at hr
    rw [runF] at hr
    cases hq : lkp C pc with
    | nil => rw [hq] at hr; cases hr
    | cons q t =>
      rw [hq] at hr
      obtain ⟨h1, h2, h3⟩ := chk_lkp hC hq
      rw [Nat.zero_add] at h1 h3
      exact go_step F hM hok hclg hRd hR hlen (fun L st h hk => runF_grow X cl hclg ini rk C _ _ _ _ _ _ hk) hPk h1 h2 h3 hret (ih _) (fun t => ih t) L st h hr
end Main
theorem lay_len (G : XG) : ∀ as : XS, (lg_sl (as.map (cV G))).length = (lay as).length := by
  intro as
  induction as with
  | nil => rfl
  | cons v t ih =>
    simp only [List.map_cons, lg_sl, List.flatMap_cons, List.length_append, lay, cV_cat] at ih ⊢
    split
    · simp only [List.length_cons, List.length_nil, ih]; omega
    · simp only [List.length_cons, List.length_nil, ih]; omega
theorem lay_mem (G : XG) : ∀ (as : XS) (k i : Nat) (v : XV), (lay as)[i]? = some (some v) → (k + i, cV G v) ∈ lv_args k (as.map (cV G)) := by
  intro as
  induction as with
  | nil => intro k i v h; simp [lay] at h
  | cons u t ih =>
    intro k i v h
    simp only [lay] at h
    simp only [List.map_cons, lv_args, cV_cat]
    split at h
    · rename_i h2
      rw [if_pos h2]
      match i, h with
      | 0, h => simp at h; subst h; exact List.mem_cons_self
      | 1, h => simp at h
      | i + 2, h =>
        simp at h
        have := ih (k + 2) i v h
        rw [show k + 2 + i = k + (i + 2) by omega] at this
        exact List.mem_cons_of_mem _ this
    · rename_i h2
      rw [if_neg h2]
      match i, h with
      | 0, h => simp at h; subst h; exact List.mem_cons_self
      | i + 1, h =>
        simp at h
        have := ih (k + 1) i v h
        rw [show k + 1 + i = k + (i + 1) by omega] at this
        exact List.mem_cons_of_mem _ this
theorem ent_LH {G : XG} {as : XS} {n : Nat} (h : (lay as).length ≤ n) : LH G ((lg_sl (as.map (cV G)) ++ List.replicate (n - (lg_sl (as.map (cV G))).length) Slot.unset).toArray) n (ent n as) := by
  have hl := lv_entry (as.map (cV G)) (n := n) (by rw [lay_len]; exact h)
  refine ⟨hl.1, hl.2.1, by simp [ent]; omega, fun i v hv => ?_⟩
  unfold ent at hv
  by_cases hi : i < (lay as).length
  · rw [List.getElem?_append_left hi] at hv
    have := lay_mem G as 0 i v hv
    rw [Nat.zero_add] at this
    exact hl.2.2 _ this
  · rw [List.getElem?_append_right (by omega), List.getElem?_replicate] at hv
    split at hv <;> cases hv
def rkOK (rk : Nat) (t : Option FieldType) : Bool := match t with
  | none => decide (rk = 0)
  | some .int => decide (rk = 1)
  | some .boolean => decide (rk = 4)
  | some .char => decide (rk = 5)
  | some .byte => decide (rk = 6)
  | some .long => decide (rk = 2)
  | some (.object _) => decide (rk = 3)
  | some (.array _) => decide (rk = 3)
  | _ => false
/-- a table of methods that fits the Statement's -/
def TabOK (T : Nat → Option XM) : Prop := ∀ (k : Nat) (mth : XM), T k = some mth → ∃ (q : XMe) (P : List (Nat × XP × Nat × Nat)), xme[k]? = some q ∧ 0 < k ∧ chkC P q.1.cls q.2.1 0 mth.1 = true ∧ (∀ r ∈ P, okP q.1.cls r = true) ∧ (mth.2.1 = true → q.1.name = "<init>") ∧ rkOK mth.2.2.1 q.2.2.2.1 = true ∧ mth.2.2.2 = q.2.2.1
theorem met_step (l : Launch) (G : XG) (X : XE) (T : Nat → Option XM) (hT : TabOK T) (hok : ∀ (k : Nat) (q : XMe), xme[k]? = some q → 0 < k → okQ q) {d : Nat} (hM : McL l G X d (call X T d)) : McL l G X (d + 1) (call X T (d + 1)) := by
  intro k as h r hr hlen
  have hgr : hle h r.2 := call_grow X T _ _ _ _ _ hr
  simp only [call] at hr
  cases hm : T k with
  | none => rw [hm] at hr; cases hr
  | some mth =>
    rw [hm] at hr
    dsimp only at hr
    split at hr
    · rename_i hlay
      obtain ⟨n, hrun⟩ := run_ex hr
      obtain ⟨q, P, hq, hk0, hC, hPk, hini, hrk, hml⟩ := hT k mth hm
      have hqok := hok k q hq hk0
      obtain ⟨g1, g2, g3, g4, g5, g6⟩ := okM_facts hqok
      refine ⟨q, hq, ?_⟩
      refine Met.ofW (cc := q.2.1) (maxL := q.2.2.1) (ret := q.2.2.2.1) g3 rfl ?_
      intro p e s m args below meth c s₁ B hml2 hv
      obtain ⟨rfl, hP, hsz, hK, hE⟩ := hv
      have hts : ∀ w ∈ XW, w.before (as.map (cV G)).toArray s = true := fun w hw => atoms_spec (ws := .code q.1 q.2.1 q.2.2.1 q.2.2.2.1 :: XW) B.pre w (List.mem_cons_of_mem _ hw)
      have F : Fx p s m (as.map (cV G)).toArray meth c q.2.1 q.2.2.1 q.1.cls G X mth.2.1 h.1.length := ⟨B.exec, B.bytes, hml2, findClass_of_methodNamed B.named, hts, hK, hE, fun hi => (name_of_methodNamed B.named B.method).1.trans (hini hi), hsz⟩
      rw [lg_entry_eq]
      have hret : RetH p l e (headSpec (.code q.1 q.2.1 q.2.2.1 q.2.2.2.1 :: XW) { frames := d + 1, cells := r.2.1.length - h.1.length, slots := slt r.2.1 - slt h.1, locals := 40 * (d + 1) }).room s m (as.map (cV G)).toArray below meth c (MQ below (Qcx G r) (as.map (cV G)).toArray s (r.2.1.length - h.1.length) (slt r.2.1 - slt h.1) (xA G)) q.2.1 G h.1.length (slt h.1) r mth.2.2.1 := by
        intro pc ins ls H locs hd hro hP2 hS2
        have hlocks := B.notSynchronized
        have hQ : ∀ (t : State), t.heap = H → s.WarmedH t.vm → Qcx G r (as.map (cV G)).toArray s (.returned (r.1.map (cV G))) t := fun t ht _ => ⟨rfl, by rw [ht]; exact hP2, hS2.F ht⟩
        have hb := B.returns
        rcases hro with ⟨h1, rfl, h2⟩ | ⟨h1, rfl, x, h2⟩ | ⟨h1, rfl, x, h2, h3⟩ | ⟨h1, rfl, x, h2, h3⟩ | ⟨h1, rfl, x, h2, h3⟩ | ⟨h1, rfl, x, h2⟩ | ⟨h1, rfl, x, h2⟩
        · have ht : q.2.2.2.1 = none := by
            unfold rkOK at hrk
            split at hrk <;> first | assumption | (simp [h1] at hrk; done)
          rw [h2] at hQ ⊢
          exact W.vret B.exec B.bytes (hb.trans ht) hQ hS2.2.2 hd hlocks
        · have ht : q.2.2.2.1 = some .int := by
            unfold rkOK at hrk
            split at hrk <;> first | assumption | (simp [h1] at hrk; done)
          rw [h2] at hQ ⊢
          exact W.iret B.exec B.bytes (hb.trans ht) hQ hS2.2.2 hd hlocks
        · have ht : q.2.2.2.1 = some .boolean := by
            unfold rkOK at hrk
            split at hrk <;> first | assumption | (simp [h1] at hrk; done)
          rw [h2] at hQ ⊢
          refine W.zret B.exec B.bytes (hb.trans ht) ?_ hQ hS2.2.2 hd hlocks
          unfold is01 at h3
          simp only [Bool.or_eq_true, decide_eq_true_eq] at h3
          rcases h3 with rfl | rfl <;> decide
        · have ht : q.2.2.2.1 = some .char := by
            unfold rkOK at hrk
            split at hrk <;> first | assumption | (simp [h1] at hrk; done)
          rw [h2] at hQ ⊢
          refine W.zret B.exec B.bytes (hb.trans ht) ?_ hQ hS2.2.2 hd hlocks
          rw [← h3]
          exact pk_nc x
        · have ht : q.2.2.2.1 = some .byte := by
            unfold rkOK at hrk
            split at hrk <;> first | assumption | (simp [h1] at hrk; done)
          rw [h2] at hQ ⊢
          refine W.zret B.exec B.bytes (hb.trans ht) ?_ hQ hS2.2.2 hd hlocks
          show Value.int x.toInt8.toInt32 = .int x
          rw [h3]
        · have ht : q.2.2.2.1 = some .long := by
            unfold rkOK at hrk
            split at hrk <;> first | assumption | (simp [h1] at hrk; done)
          rw [h2] at hQ ⊢
          exact W.lret B.exec B.bytes (hb.trans ht) hQ hS2.2.2 hd hlocks
        · have ht : ∃ rt, q.2.2.2.1 = some rt ∧ ((∃ n, rt = .object n) ∨ ∃ t, rt = .array t) := by
            unfold rkOK at hrk
            split at hrk <;> first | exact ⟨_, by assumption, Or.inl ⟨_, rfl⟩⟩ | exact ⟨_, by assumption, Or.inr ⟨_, rfl⟩⟩ | (simp [h1] at hrk; done)
          obtain ⟨rt, ht, ht2⟩ := ht
          rw [h2] at hQ ⊢
          exact W.aret B.exec B.bytes (hb.trans ht) ht2 (cV_rf G x) hQ hS2.2.2 hd hlocks
      have go := go_run (R := (headSpec (.code q.1 q.2.1 q.2.2.1 q.2.2.2.1 :: XW) { frames := d + 1, cells := r.2.1.length - h.1.length, slots := slt r.2.1 - slt h.1, locals := 40 * (d + 1) }).room) F hM hok (fun k as h rr hc => call_grow X T _ _ _ _ _ hc) ⟨Nat.le_refl _, Nat.le_refl _⟩ ⟨Nat.le_refl _, Nat.le_refl _⟩ hlen hPk hC hret n 0
      rw [hml] at hlay hrun
      have fin := go _ _ _ hrun _ s.heap [] (ent_LH hlay) (Nat.le_refl _) (Nat.le_refl _) hP va_S.rf
      rw [Nat.sub_self, Nat.sub_self] at fin
      exact fin
    · cases hr
theorem met_all (l : Launch) (G : XG) (X : XE) (T : Nat → Option XM) (hT : TabOK T) (hok : ∀ (k : Nat) (q : XMe), xme[k]? = some q → 0 < k → okQ q) : ∀ d, McL l G X d (call X T d) := by
  intro d
  induction d with
  | zero => intro k as h r hr; simp [call] at hr
  | succ d ih => exact met_step l G X T hT hok ih
