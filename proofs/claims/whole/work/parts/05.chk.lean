def xtb (t : Nat) : List Cond := match t with
  | 0 => k2_sels lw_privs
  | 1 => tables_1_1
  | 2 => tables_1_2
  | 3 => tables_1_3
  | 4 => tables_1_4
  | 5 => tables_1_5
  | 6 => tables_1_6
  | 7 => tables_1_7
  | 8 => tables_1_8
  | _ => []
def xat (q : Nat × Nat) (w : Cond) : Bool := decide ((xtb q.1)[q.2]? = some w) && goodWord w
/-- the words that stay true while the machine runs -/
def XW : List Cond := lw_tbl.filter goodWord
theorem xtb_in {t : Nat} {w : Cond} (h : w ∈ xtb t) : w ∈ lw_tbl := by
  unfold lw_tbl tables_1
  simp only [List.mem_append]
  unfold xtb at h
  split at h
  · exact Or.inl h
  · exact Or.inr (Or.inl h)
  · exact Or.inr (Or.inr (Or.inl h))
  · exact Or.inr (Or.inr (Or.inr (Or.inl h)))
  · exact Or.inr (Or.inr (Or.inr (Or.inr (Or.inl h))))
  · exact Or.inr (Or.inr (Or.inr (Or.inr (Or.inr (Or.inl h)))))
  · exact Or.inr (Or.inr (Or.inr (Or.inr (Or.inr (Or.inr (Or.inl h))))))
  · exact Or.inr (Or.inr (Or.inr (Or.inr (Or.inr (Or.inr (Or.inr (Or.inl h)))))))
  · exact Or.inr (Or.inr (Or.inr (Or.inr (Or.inr (Or.inr (Or.inr (Or.inr h)))))))
  · cases h
theorem xat_in {q : Nat × Nat} {w : Cond} (h : xat q w = true) : w ∈ XW := by
  unfold xat at h
  simp only [Bool.and_eq_true, decide_eq_true_eq] at h
  exact List.mem_filter.mpr ⟨xtb_in (List.mem_of_getElem? h.1), h.2⟩
/-- words on nest mates and casts: they stay true too, by rows of their own -/
def goodN (w : Cond) : Bool := match w with
  | .fieldLinkNest _ _ _ _ _ _ => true
  | .methodLinkNest _ _ _ _ => true
  | .castable _ _ => true
  | _ => false
def XN : List Cond := lw_tbl.filter goodN
def xatN (q : Nat × Nat) (w : Cond) : Bool := decide ((xtb q.1)[q.2]? = some w) && goodN w
theorem xatN_in {q : Nat × Nat} {w : Cond} (h : xatN q w = true) : w ∈ XN := by
  unfold xatN at h
  simp only [Bool.and_eq_true, decide_eq_true_eq] at h
  exact List.mem_filter.mpr ⟨xtb_in (List.mem_of_getElem? h.1), h.2⟩
def xty (ci fi : Nat) : Nat := (xfs.getD ci []).getD fi 0
def xft (ci fi : Nat) : FieldType := (xtys.getD ci []).getD fi .int
theorem xws_in {ws : List Cond} (qs : List (Nat × Nat)) (h : (decide (qs.length = ws.length) && (qs.zip ws).all (fun r => xat r.1 r.2)) = true) : ∀ w ∈ ws, w ∈ XW := by
  simp only [Bool.and_eq_true, decide_eq_true_eq] at h
  intro w hw
  obtain ⟨i, hi⟩ := List.getElem?_of_mem hw
  have hl : i < qs.length := by rw [h.1]; exact (List.getElem?_eq_some_iff.mp hi).1
  have hz : (qs.zip ws)[i]? = some (qs[i], w) := by
    rw [List.getElem?_zip_eq_some]
    exact ⟨List.getElem?_eq_getElem hl, hi⟩
  exact xat_in (List.all_eq_true.mp h.2 _ (List.mem_of_getElem? hz))
abbrev XMe : Type := MethodName × ByteArray × Nat × Option FieldType × ((Nat × Nat) × (Nat × Nat) × (Nat × Nat) × (Nat × Nat))
def okM (q : XMe) : Bool :=
  xat q.2.2.2.2.2.1 (.initialized q.1.cls) && plainName q.1.cls && decide (q.1.cls ≠ "java/lang/invoke/MethodHandle") && decide (q.1.cls ≠ "java/lang/invoke/VarHandle") && decide (q.2.2.1 ≤ 20)
/-- a method's words: its code is the Statement's -/
def okQ (q : XMe) : Prop := okM q = true ∧ Cond.code q.1 q.2.1 q.2.2.1 q.2.2.2.1 ∈ XW
def npar (q : XMe) (n : Nat) : Bool := decide ((parseMethodDescriptor q.1.desc).map (fun d => d.parameters.length) = some n)
def okP (own : String) (r : Nat × XP × Nat × Nat) : Bool :=
  if r.2.1.1 = 1 then (match xcl[r.2.1.2.1]? with
    | some c => decide (r.2.1.2.2.1 < c.2.2) && decide (xty r.2.1.2.1 r.2.1.2.2.1 = r.2.1.2.2.2) && (xat r.2.2 (.fieldLink own r.1 c.1 (c.2.1 r.2.1.2.2.1).2.1 (c.2.1 r.2.1.2.2.1).2.2.1) || (decide (c.1 ≠ own) && xatN r.2.2 (.fieldLinkNest own r.1 c.1 (c.2.1 r.2.1.2.2.1).2.1 (c.2.1 r.2.1.2.2.1).2.2.1 "TamerState")))
    | none => false)
  else if r.2.1.1 = 2 then (match xme[r.2.1.2.1]?, xcl[r.2.1.2.2.1 % 1000]? with
    | some q, some c => decide (0 < r.2.1.2.1) && decide (q.1.cls = c.1) && xat r.2.2 (.methodLink own r.1 q.1) && xat q.2.2.2.2.2.2.1 (.instanceMethod q.1) && xat q.2.2.2.2.2.2.2 (.selects q.1.cls q.1 q.1) && npar q (r.2.1.2.2.1 / 1000)
    | _, _ => false)
  else if r.2.1.1 = 3 then (match xme[r.2.1.2.1]?, xcl[r.2.1.2.2.1 % 1000]? with
    | some q, some c => decide (0 < r.2.1.2.1) && decide (q.1.cls = c.1) && decide (q.1.name = "<init>") && decide (q.2.2.2.1 = none) && (xat r.2.2 (.methodLink own r.1 q.1) || xatN r.2.2 (.methodLinkNest own r.1 q.1 "TamerState")) && xat q.2.2.2.2.2.2.1 (.instanceMethod q.1) && npar q (r.2.1.2.2.1 / 1000)
    | _, _ => false)
  else if r.2.1.1 = 4 then (match xme[r.2.1.2.1]? with
    | some q => decide (0 < r.2.1.2.1) && (xat r.2.2 (.methodLink own r.1 q.1) || xatN r.2.2 (.methodLinkNest own r.1 q.1 "TamerState")) && xat q.2.2.2.2.2.2.1 (.static q.1) && npar q r.2.1.2.2.1
    | _ => false)
  else if r.2.1.1 = 13 then (match xme[r.2.1.2.1]? with
    | some q => decide (0 < r.2.1.2.1) && decide (q.1.cls = "java/lang/String") && xat r.2.2 (.methodLink own r.1 q.1) && xat q.2.2.2.2.2.2.1 (.instanceMethod q.1) && xat q.2.2.2.2.2.2.2 (.selects q.1.cls q.1 q.1) && npar q (r.2.1.2.2.1 / 1000)
    | _ => false)
  else if r.2.1.1 = 5 then xat r.2.2 (.methodLink own r.1 objectInit)
  else if r.2.1.1 = 6 then (match xcl[r.2.1.2.1]? with
    | some c => decide (r.2.1.2.2.1 = c.2.2) && xat r.2.2 (.classLink own r.1 c.1)
    | none => false)
  else if r.2.1.1 = 7 then (decide (r.2.1.2.1 = 53) && xat r.2.2 (.classLink own r.1 "TamerState$World")) || (decide (r.2.1.2.1 = 54) && xat r.2.2 (.classLink own r.1 "TamerState$Program"))
  else if r.2.1.1 = 9 then (decide (r.2.1.2.1 = 1) && xat r.2.2 (.fieldLink own r.1 "TamerState" "REFUSALS" "[I")) || (decide (r.2.1.2.1 = 2) && xat r.2.2 (.fieldLink own r.1 "TamerState" "TOP_TERMS" "[I")) || (decide (r.2.1.2.1 = 7) && xat r.2.2 (.fieldLink own r.1 "jdk/internal/util/Preconditions" "SIOOBE_FORMATTER" "Ljava/util/function/BiFunction;"))
  else if r.2.1.1 = 10 then decide (r.2.1.2.1 = 1) && xat r.2.2 (.fieldLink own r.1 "java/lang/String" "COMPACT_STRINGS" "Z")
  else if r.2.1.1 = 12 then (decide (r.2.1.2.1 = 0) && xat r.2.2 (.fieldLink own r.1 "java/lang/String" "value" "[B")) || (decide (r.2.1.2.1 = 1) && xat r.2.2 (.fieldLink own r.1 "java/lang/String" "coder" "B"))
  else if r.2.1.1 = 20 then xat r.2.2 (.constant own r.1 (Int32.ofNat r.2.1.2.1))
  else if r.2.1.1 = 21 then xat r.2.2 (.constantLong own r.1 (Int64.ofNat r.2.1.2.1))
  else if r.2.1.1 = 22 then decide (own = "TamerState$Parser") && ((decide (r.1 = 90) && decide (r.2.1.2.1 = 3)) || (decide (r.1 = 96) && decide (r.2.1.2.1 = 5)))
  else if r.2.1.1 = 30 then xat r.2.2 (.methodLink own r.1 arraycopyName)
  else if r.2.1.1 = 31 then xat r.2.2 (.methodLink own r.1 Lib.Math.max.name)
  else if r.2.1.1 = 32 then xat r.2.2 (.methodLink own r.1 Lib.Math.min.name)
  else if r.2.1.1 = 33 then xat r.2.2 (.methodLink own r.1 Lib.Math.abs.name)
  else if r.2.1.1 = 34 then xat r.2.2 (.methodLink own r.1 ⟨"[I", "clone", "()Ljava/lang/Object;"⟩)
  else if r.2.1.1 = 35 then xat r.2.2 (.classLink own r.1 "[I")
  else false
def ilen (i : Instr) (n : Nat) : Nat := match i with
  | .aload _ | .iload _ | .lload _ | .astore _ | .istore _ | .lstore _ | .bipush _ | .ldc _ | .newarray _ => 2
  | .iinc _ _ | .sipush _ | .ldc_w _ | .ldc2_w _ | .getfield _ | .putfield _ | .getstatic _ | .invokevirtual _ | .invokespecial _ | .invokestatic _ | .new _ | .anewarray _ | .checkcast _ | .ifCond _ _ | .if_icmp _ _ | .goto _ | .ifnull _ | .ifnonnull _ => 3
  | .tableswitch _ _ _ _ => n
  | _ => 1
def inP (P : List (Nat × XP × Nat × Nat)) (i : Nat) (e : XP) : Bool := decide (e.1 = 99) || P.any (fun r => decide (r.1 = i) && decide (r.2.1 = e))
def okI (P : List (Nat × XP × Nat × Nat)) (own : String) (pc : Nat) (q : XI) : Bool := match q.1 with
  | .getfield i => inP P i q.2.2
  | .putfield i => inP P i q.2.2 && (decide (q.2.2.2.2.2 ≠ 6) || decide ((xcl[q.2.2.2.1]?).map (fun c => c.1) = some own))
  | .getstatic i => inP P i q.2.2
  | .invokevirtual i => inP P i q.2.2
  | .invokespecial i => inP P i q.2.2
  | .invokestatic i => inP P i q.2.2
  | .new i => inP P i q.2.2
  | .anewarray i => inP P i q.2.2
  | .checkcast i => inP P i q.2.2
  | .ldc i => inP P i q.2.2
  | .ldc_w i => inP P i q.2.2
  | .ldc2_w i => inP P i q.2.2
  | .iconst n => decide (Int32.ofInt n = xlit n)
  | .bipush n => decide ((Int8.ofInt n).toInt32 = xlit n)
  | .sipush n => decide ((Int16.ofInt n).toInt32 = xlit n)
  | .iinc _ n => decide (Int32.ofInt n = xlit n)
  | .goto o => decide (0 ≤ (pc : Int) + o)
  | .ifCond _ o => decide (0 ≤ (pc : Int) + o)
  | .if_icmp _ o => decide (0 ≤ (pc : Int) + o)
  | .ifnull o => decide (0 ≤ (pc : Int) + o)
  | .ifnonnull o => decide (0 ≤ (pc : Int) + o)
  | .tableswitch d lo hi os => decide (0 ≤ (pc : Int) + d) && os.toList.all (fun o => decide (0 ≤ (pc : Int) + o)) && decide ((os.size : Int) = hi - lo + 1)
  | _ => true
def chkC (P : List (Nat × XP × Nat × Nat)) (own : String) (b : ByteArray) (pc : Nat) (C : List XI) : Bool := match C with
  | [] => true
  | q :: r => decide (decode b pc = .ok (q.1, q.2.1)) && decide (ilen q.1 q.2.1 = q.2.1) && decide (1 ≤ q.2.1) && okI P own pc q && chkC P own b (pc + q.2.1) r
def clen (C : List XI) : Nat := match C with
  | [] => 0
  | q :: r => q.2.1 + clen r
theorem chkC_app {P : List (Nat × XP × Nat × Nat)} {own : String} {b : ByteArray} : ∀ {A B : List XI} {pc pc2 : Nat}, chkC P own b pc A = true → pc + clen A = pc2 → chkC P own b pc2 B = true → chkC P own b pc (A ++ B) = true := by
  intro A
  induction A with
  | nil => intro B pc pc2 _ h h2; simp [clen] at h; subst h; exact h2
  | cons q A ih =>
    intro B pc pc2 h1 h h2
    simp only [chkC, List.cons_append, Bool.and_eq_true] at h1 ⊢
    exact ⟨h1.1, ih h1.2 (by simp only [clen] at h; omega) h2⟩
theorem xg_oi : Cond.instanceMethod objectInit ∈ XW := xat_in (q := (1, 27)) (by decide +kernel)
theorem xg_oc : Cond.code objectInit ⟨#[0xb1]⟩ 1 none ∈ XW := xat_in (q := (1, 28)) (by decide +kernel)
theorem xg_acn : Cond.native arraycopyName ∈ XW := xat_in (q := (4, 8)) (by decide +kernel)
theorem xg_acs : Cond.static arraycopyName ∈ XW := xat_in (q := (4, 7)) (by decide +kernel)
theorem xg_sys : Cond.initialized "java/lang/System" ∈ XW := xat_in (q := (1, 19)) (by decide +kernel)
theorem xg_math : Cond.initialized "java/lang/Math" ∈ XW := xat_in (q := (1, 13)) (by decide +kernel)
theorem xg_mmaxs : Cond.static Lib.Math.max.name ∈ XW := xat_in (q := (2, 183)) (by decide +kernel)
theorem xg_mmaxc : Cond.code Lib.Math.max.name Lib.Math.max.code 2 (some .int) ∈ XW := xat_in (q := (2, 184)) (by decide +kernel)
theorem xg_mmins : Cond.static Lib.Math.min.name ∈ XW := xat_in (q := (2, 180)) (by decide +kernel)
theorem xg_mminc : Cond.code Lib.Math.min.name Lib.Math.min.code 2 (some .int) ∈ XW := xat_in (q := (2, 181)) (by decide +kernel)
theorem xg_mabss : Cond.static Lib.Math.abs.name ∈ XW := xat_in (q := (4, 117)) (by decide +kernel)
theorem xg_mabsc : Cond.code Lib.Math.abs.name Lib.Math.abs.code 1 (some .int) ∈ XW := xat_in (q := (4, 118)) (by decide +kernel)
theorem xg_cls : Cond.sameMethod "[I" "java/lang/Object" "clone" "()Ljava/lang/Object;" ∈ XW := xat_in (q := (3, 239)) (by decide +kernel)
theorem xg_cln : Cond.native ⟨"java/lang/Object", "clone", "()Ljava/lang/Object;"⟩ ∈ XW := xat_in (q := (4, 0)) (by decide +kernel)
theorem xg_cli : Cond.instanceMethod ⟨"java/lang/Object", "clone", "()Ljava/lang/Object;"⟩ ∈ XW := xat_in (q := (4, 1)) (by decide +kernel)
theorem xg_clx : Cond.selects "[I" ⟨"[I", "clone", "()Ljava/lang/Object;"⟩ ⟨"java/lang/Object", "clone", "()Ljava/lang/Object;"⟩ ∈ XW := xat_in (q := (4, 2)) (by decide +kernel)
theorem xg_clc : Cond.castable "[I" "java/lang/Cloneable" ∈ XN := xatN_in (q := (4, 3)) (by decide +kernel)
theorem xg_aI : Cond.arrayClass .int ∈ XW := xat_in (q := (1, 45)) (by decide +kernel)
theorem xg_aJ : Cond.arrayClass .long ∈ XW := xat_in (q := (1, 175)) (by decide +kernel)
theorem xg_aZ : Cond.arrayClass .boolean ∈ XW := xat_in (q := (6, 142)) (by decide +kernel)
theorem xg_aW : Cond.arrayOver (.object "TamerState$World") ∈ lw_tbl := xtb_in (t := 1) (List.mem_of_getElem? (i := 89) (by decide +kernel))
theorem xg_aP : Cond.arrayOver (.object "TamerState$Program") ∈ lw_tbl := xtb_in (t := 1) (List.mem_of_getElem? (i := 60) (by decide +kernel))
theorem xg_n0 : Cond.initialized "TamerState$Deeds" ∈ XW := xat_in (q := (1, 4)) (by decide +kernel)
theorem xg_k0 : Cond.instantiable "TamerState$Deeds" 2 ∈ XW := xat_in (q := (1, 47)) (by decide +kernel)
theorem xg_w0 : ∀ w ∈ u_ws "TamerState$Deeds" xF0 2, w ∈ XW := xws_in [(1, 54), (1, 56)] (by decide +kernel)
theorem xg_n1 : Cond.initialized "TamerState$Log" ∈ XW := xat_in (q := (1, 11)) (by decide +kernel)
theorem xg_k1 : Cond.instantiable "TamerState$Log" 4 ∈ XW := xat_in (q := (1, 223)) (by decide +kernel)
theorem xg_w1 : ∀ w ∈ u_ws "TamerState$Log" xF1 4, w ∈ XW := xws_in [(1, 232), (1, 234), (1, 236), (1, 238)] (by decide +kernel)
theorem xg_n2 : Cond.initialized "TamerState$Machine" ∈ XW := xat_in (q := (1, 9)) (by decide +kernel)
theorem xg_k2 : Cond.instantiable "TamerState$Machine" 2 ∈ XW := xat_in (q := (1, 163)) (by decide +kernel)
theorem xg_w2 : ∀ w ∈ u_ws "TamerState$Machine" xF2 2, w ∈ XW := xws_in [(1, 170), (1, 172)] (by decide +kernel)
theorem xg_n3 : Cond.initialized "TamerState$Parser" ∈ XW := xat_in (q := (1, 6)) (by decide +kernel)
theorem xg_k3 : Cond.instantiable "TamerState$Parser" 9 ∈ XW := xat_in (q := (1, 104)) (by decide +kernel)
theorem xg_w3 : ∀ w ∈ u_ws "TamerState$Parser" xF3 9, w ∈ XW := xws_in [(1, 137), (1, 139), (1, 141), (1, 143), (1, 145), (1, 147), (1, 149), (1, 151), (1, 153)] (by decide +kernel)
theorem xg_n4 : Cond.initialized "TamerState$Plans" ∈ XW := xat_in (q := (1, 10)) (by decide +kernel)
theorem xg_k4 : Cond.instantiable "TamerState$Plans" 10 ∈ XW := xat_in (q := (1, 184)) (by decide +kernel)
theorem xg_w4 : ∀ w ∈ u_ws "TamerState$Plans" xF4 10, w ∈ XW := xws_in [(1, 201), (1, 203), (1, 205), (1, 207), (1, 209), (1, 211), (1, 213), (1, 215), (1, 217), (1, 219)] (by decide +kernel)
theorem xg_n5 : Cond.initialized "TamerState$Program" ∈ XW := xat_in (q := (1, 7)) (by decide +kernel)
theorem xg_k5 : Cond.instantiable "TamerState$Program" 4 ∈ XW := xat_in (q := (1, 110)) (by decide +kernel)
theorem xg_w5 : ∀ w ∈ u_ws "TamerState$Program" xF5 4, w ∈ XW := xws_in [(1, 119), (1, 121), (1, 123), (1, 125)] (by decide +kernel)
theorem xg_n6 : Cond.initialized "TamerState$Rules" ∈ XW := xat_in (q := (1, 8)) (by decide +kernel)
theorem xg_k6 : Cond.instantiable "TamerState$Rules" 2 ∈ XW := xat_in (q := (1, 157)) (by decide +kernel)
theorem xg_w6 : ∀ w ∈ u_ws "TamerState$Rules" xF6 2, w ∈ XW := xws_in [(1, 178), (1, 180)] (by decide +kernel)
theorem xg_n7 : Cond.initialized "TamerState$Scene" ∈ XW := xat_in (q := (1, 3)) (by decide +kernel)
theorem xg_k7 : Cond.instantiable "TamerState$Scene" 1 ∈ XW := xat_in (q := (1, 36)) (by decide +kernel)
theorem xg_w7 : ∀ w ∈ u_ws "TamerState$Scene" xF7 1, w ∈ XW := xws_in [(1, 42)] (by decide +kernel)
theorem xg_n8 : Cond.initialized "TamerState$Tape" ∈ XW := xat_in (q := (1, 5)) (by decide +kernel)
theorem xg_k8 : Cond.instantiable "TamerState$Tape" 2 ∈ XW := xat_in (q := (1, 91)) (by decide +kernel)
theorem xg_w8 : ∀ w ∈ u_ws "TamerState$Tape" xF8 2, w ∈ XW := xws_in [(1, 98), (1, 100)] (by decide +kernel)
theorem xg_n9 : Cond.initialized "TamerState$World" ∈ XW := xat_in (q := (1, 2)) (by decide +kernel)
theorem xg_k9 : Cond.instantiable "TamerState$World" 6 ∈ XW := xat_in (q := (1, 30)) (by decide +kernel)
theorem xg_w9 : ∀ w ∈ u_ws "TamerState$World" xF9 6, w ∈ XW := xws_in [(1, 76), (1, 78), (1, 80), (1, 82), (1, 84), (1, 86)] (by decide +kernel)
theorem xg_n10 : Cond.initialized "TamerState" ∈ XW := xat_in (q := (1, 1)) (by decide +kernel)
theorem xg_k10 : Cond.instantiable "TamerState" 18 ∈ XW := xat_in (q := (1, 22)) (by decide +kernel)
theorem xg_w10 : ∀ w ∈ u_ws "TamerState" xF10 18, w ∈ XW := xws_in [(2, 23), (2, 25), (2, 27), (2, 29), (2, 31), (2, 33), (2, 35), (2, 37), (2, 39), (2, 41), (2, 43), (2, 45), (2, 47), (2, 49), (2, 51), (2, 53), (2, 55), (2, 57)] (by decide +kernel)
theorem xg_n11 : Cond.initialized "TamerStateModel" ∈ XW := xat_in (q := (1, 12)) (by decide +kernel)
theorem xg_k11 : Cond.instantiable "TamerStateModel" 60 ∈ XW := xat_in (q := (5, 175)) (by decide +kernel)
theorem xg_w11 : ∀ w ∈ u_ws "TamerStateModel" xF11 60, w ∈ XW := xws_in [(6, 21), (6, 23), (6, 25), (6, 27), (6, 29), (6, 31), (6, 33), (6, 35), (6, 37), (6, 39), (6, 41), (6, 43), (6, 45), (6, 47), (6, 49), (6, 51), (6, 53), (6, 55), (6, 57), (6, 59), (6, 61), (6, 63), (6, 65), (6, 67), (6, 69), (6, 71), (6, 73), (6, 75), (6, 77), (6, 79), (6, 81), (6, 83), (6, 85), (6, 87), (6, 89), (6, 91), (6, 93), (6, 95), (6, 97), (6, 99), (6, 101), (6, 103), (6, 105), (6, 107), (6, 109), (6, 111), (6, 113), (6, 115), (6, 117), (6, 119), (6, 121), (6, 123), (6, 125), (6, 127), (6, 129), (6, 131), (6, 133), (6, 135), (6, 137), (6, 139)] (by decide +kernel)
theorem xcl_nm : ∀ (ci : Nat) (c : vw_C), xcl[ci]? = some c → ∀ a, a < c.2.2 → ∀ b, b < c.2.2 → a ≠ b → (c.2.1 a).2.1 ≠ (c.2.1 b).2.1 := fun ci c h => match ci, h with
  | 0, h => by cases h; decide +kernel
  | 1, h => by cases h; decide +kernel
  | 2, h => by cases h; decide +kernel
  | 3, h => by cases h; decide +kernel
  | 4, h => by cases h; decide +kernel
  | 5, h => by cases h; decide +kernel
  | 6, h => by cases h; decide +kernel
  | 7, h => by cases h; decide +kernel
  | 8, h => by cases h; decide +kernel
  | 9, h => by cases h; decide +kernel
  | 10, h => by cases h; decide +kernel
  | 11, h => by cases h; decide +kernel
  | n + 12, h => by simp [xcl] at h
theorem xcl_ty : ∀ (ci : Nat) (c : vw_C), xcl[ci]? = some c → ∀ k, k < c.2.2 → parseFieldDescriptor (c.2.1 k).2.2.1 = some (xft ci k) := fun ci c h => match ci, h with
  | 0, h => by cases h; decide +kernel
  | 1, h => by cases h; decide +kernel
  | 2, h => by cases h; decide +kernel
  | 3, h => by cases h; decide +kernel
  | 4, h => by cases h; decide +kernel
  | 5, h => by cases h; decide +kernel
  | 6, h => by cases h; decide +kernel
  | 7, h => by cases h; decide +kernel
  | 8, h => by cases h; decide +kernel
  | 9, h => by cases h; decide +kernel
  | 10, h => by cases h; decide +kernel
  | 11, h => by cases h; decide +kernel
  | n + 12, h => by simp [xcl] at h
theorem xcl_own : ∀ (ci : Nat) (c : vw_C), xcl[ci]? = some c → ∀ k, k < c.2.2 → (c.2.1 k).1 = c.1 ∧ (c.2.1 k).2.2.2 = decide (4 ≤ xty ci k) := fun ci c h => match ci, h with
  | 0, h => by cases h; decide +kernel
  | 1, h => by cases h; decide +kernel
  | 2, h => by cases h; decide +kernel
  | 3, h => by cases h; decide +kernel
  | 4, h => by cases h; decide +kernel
  | 5, h => by cases h; decide +kernel
  | 6, h => by cases h; decide +kernel
  | 7, h => by cases h; decide +kernel
  | 8, h => by cases h; decide +kernel
  | 9, h => by cases h; decide +kernel
  | 10, h => by cases h; decide +kernel
  | 11, h => by cases h; decide +kernel
  | n + 12, h => by simp [xcl] at h
/-- a field's number says its type -/
def tyOK (n : Nat) (t : FieldType) : Bool := match t with
  | .int => decide (n = 0)
  | .long => decide (n = 1)
  | .boolean => decide (n = 3)
  | .object _ => decide (n = 2) || decide (n = 6)
  | .array _ => decide (n = 2) || decide (n = 6)
  | _ => false
theorem xcl_tk : ∀ (ci : Nat) (c : vw_C), xcl[ci]? = some c → ∀ k, k < c.2.2 → tyOK (xty ci k) (xft ci k) = true := fun ci c h => match ci, h with
  | 0, h => by cases h; decide +kernel
  | 1, h => by cases h; decide +kernel
  | 2, h => by cases h; decide +kernel
  | 3, h => by cases h; decide +kernel
  | 4, h => by cases h; decide +kernel
  | 5, h => by cases h; decide +kernel
  | 6, h => by cases h; decide +kernel
  | 7, h => by cases h; decide +kernel
  | 8, h => by cases h; decide +kernel
  | 9, h => by cases h; decide +kernel
  | 10, h => by cases h; decide +kernel
  | 11, h => by cases h; decide +kernel
  | n + 12, h => by simp [xcl] at h
theorem xcl_w : ∀ (ci : Nat) (c : vw_C), xcl[ci]? = some c → (∀ w ∈ u_ws c.1 c.2.1 c.2.2, w ∈ XW) ∧ Cond.initialized c.1 ∈ XW ∧ Cond.instantiable c.1 c.2.2 ∈ XW := fun ci c h => match ci, h with
  | 0, h => by cases h; exact ⟨xg_w0, xg_n0, xg_k0⟩
  | 1, h => by cases h; exact ⟨xg_w1, xg_n1, xg_k1⟩
  | 2, h => by cases h; exact ⟨xg_w2, xg_n2, xg_k2⟩
  | 3, h => by cases h; exact ⟨xg_w3, xg_n3, xg_k3⟩
  | 4, h => by cases h; exact ⟨xg_w4, xg_n4, xg_k4⟩
  | 5, h => by cases h; exact ⟨xg_w5, xg_n5, xg_k5⟩
  | 6, h => by cases h; exact ⟨xg_w6, xg_n6, xg_k6⟩
  | 7, h => by cases h; exact ⟨xg_w7, xg_n7, xg_k7⟩
  | 8, h => by cases h; exact ⟨xg_w8, xg_n8, xg_k8⟩
  | 9, h => by cases h; exact ⟨xg_w9, xg_n9, xg_k9⟩
  | 10, h => by cases h; exact ⟨xg_w10, xg_n10, xg_k10⟩
  | 11, h => by cases h; exact ⟨xg_w11, xg_n11, xg_k11⟩
  | n + 12, h => by simp [xcl] at h
theorem xpl_ok : xow.all (fun o => o.2.all (okP o.1)) = true := by decide +kernel
theorem chk_lkp {P : List (Nat × XP × Nat × Nat)} {own : String} {b : ByteArray} : ∀ {C : List XI} {p0 pc : Nat} {q : XI} {t : List XI}, chkC P own b p0 C = true → lkp C pc = q :: t → decode b (p0 + pc) = .ok (q.1, q.2.1) ∧ ilen q.1 q.2.1 = q.2.1 ∧ okI P own (p0 + pc) q = true := by
  intro C
  induction C with
  | nil => intro p0 pc q t _ h; simp [lkp] at h
  | cons c C ih =>
    intro p0 pc q t hc h
    simp only [chkC, Bool.and_eq_true, decide_eq_true_eq] at hc
    obtain ⟨⟨⟨⟨h1, h2⟩, h3⟩, h4⟩, h5⟩ := hc
    simp only [lkp] at h
    split at h
    · rename_i h0
      injection h with a b
      subst a; subst h0
      exact ⟨h1, h2, h4⟩
    · split at h
      · cases h
      · rename_i h0 hlt
        have := ih h5 h
        rw [show p0 + c.2.1 + (pc - c.2.1) = p0 + pc by omega] at this
        exact this
theorem chk_pos {P : List (Nat × XP × Nat × Nat)} {own : String} {b : ByteArray} : ∀ {C : List XI} {p0 : Nat}, chkC P own b p0 C = true → ∀ q ∈ C, 1 ≤ q.2.1 := by
  intro C
  induction C with
  | nil => intro p0 _ q h; cases h
  | cons c C ih =>
    intro p0 hc q hq
    simp only [chkC, Bool.and_eq_true, decide_eq_true_eq] at hc
    rcases List.mem_cons.mp hq with rfl | hq
    · exact hc.1.1.2
    · exact ih hc.2 q hq
