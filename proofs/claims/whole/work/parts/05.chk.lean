def xtb (t : Nat) : List Cond := match t with
  | 0 => k2_sels lw_privs
  | 1 => tables_1_1
  | 2 => tables_1_2
  | 3 => tables_1_3
  | 4 => tables_1_4
  | 5 => tables_1_5
  | 6 => tables_1_6
  | 7 => tables_1_7
  | 8 => tables_1_8
  | _ => []
def xat (q : Nat × Nat) (w : Cond) : Bool := decide ((xtb q.1)[q.2]? = some w) && goodWord w
/-- the words that stay true while the machine runs -/
def XW : List Cond := lw_tbl.filter goodWord
theorem xtb_in {t : Nat} {w : Cond} (h : w ∈ xtb t) : w ∈ lw_tbl := by
  unfold lw_tbl tables_1
  simp only [List.mem_append]
  unfold xtb at h
  split at h
  · exact Or.inl h
  · exact Or.inr (Or.inl h)
  · exact Or.inr (Or.inr (Or.inl h))
  · exact Or.inr (Or.inr (Or.inr (Or.inl h)))
  · exact Or.inr (Or.inr (Or.inr (Or.inr (Or.inl h))))
  · exact Or.inr (Or.inr (Or.inr (Or.inr (Or.inr (Or.inl h)))))
  · exact Or.inr (Or.inr (Or.inr (Or.inr (Or.inr (Or.inr (Or.inl h))))))
  · exact Or.inr (Or.inr (Or.inr (Or.inr (Or.inr (Or.inr (Or.inr (Or.inl h)))))))
  · exact Or.inr (Or.inr (Or.inr (Or.inr (Or.inr (Or.inr (Or.inr (Or.inr h)))))))
  · cases h
theorem xat_in {q : Nat × Nat} {w : Cond} (h : xat q w = true) : w ∈ XW := by
  unfold xat at h
  simp only [Bool.and_eq_true, decide_eq_true_eq] at h
  exact List.mem_filter.mpr ⟨xtb_in (List.mem_of_getElem? h.1), h.2⟩
def xty (ci fi : Nat) : Nat := (xfs.getD ci []).getD fi 0
def xft (ci fi : Nat) : FieldType := (xtys.getD ci []).getD fi .int
def okM (q : MethodName × ByteArray × Nat × Option FieldType × ((Nat × Nat) × (Nat × Nat) × (Nat × Nat) × (Nat × Nat))) : Bool :=
  xat q.2.2.2.2.1 (.code q.1 q.2.1 q.2.2.1 q.2.2.2.1) && xat q.2.2.2.2.2.1 (.initialized q.1.cls) && (xat q.2.2.2.2.2.2.1 (.static q.1) || (xat q.2.2.2.2.2.2.1 (.instanceMethod q.1) && (decide (q.1.name = "<init>") || xat q.2.2.2.2.2.2.2 (.selects q.1.cls q.1 q.1)))) && plainName q.1.cls && decide (q.1.cls ≠ "java/lang/invoke/MethodHandle") && decide (q.1.cls ≠ "java/lang/invoke/VarHandle") && decide (q.2.2.1 ≤ 20)
def ilen (i : Instr) (n : Nat) : Nat := match i with
  | .aload _ | .iload _ | .lload _ | .astore _ | .istore _ | .lstore _ | .bipush _ | .ldc _ | .newarray _ => 2
  | .iinc _ _ | .sipush _ | .ldc_w _ | .ldc2_w _ | .getfield _ | .putfield _ | .getstatic _ | .invokevirtual _ | .invokespecial _ | .invokestatic _ | .new _ | .anewarray _ | .checkcast _ | .ifCond _ _ | .if_icmp _ _ | .goto _ | .ifnull _ | .ifnonnull _ => 3
  | .tableswitch _ _ _ _ => n
  | _ => 1
def inP (P : List (Nat × XP × Nat × Nat)) (i : Nat) (e : XP) : Bool := decide (e.1 = 99) || P.any (fun r => decide (r.1 = i) && decide (r.2.1 = e))
def okI (P : List (Nat × XP × Nat × Nat)) (pc : Nat) (q : XI) : Bool := match q.1 with
  | .getfield i => inP P i q.2.2
  | .putfield i => inP P i q.2.2
  | .getstatic i => inP P i q.2.2
  | .invokevirtual i => inP P i q.2.2
  | .invokespecial i => inP P i q.2.2
  | .invokestatic i => inP P i q.2.2
  | .new i => inP P i q.2.2
  | .anewarray i => inP P i q.2.2
  | .checkcast i => inP P i q.2.2
  | .ldc i => inP P i q.2.2
  | .ldc_w i => inP P i q.2.2
  | .ldc2_w i => inP P i q.2.2
  | .goto o => decide (0 ≤ (pc : Int) + o)
  | .ifCond _ o => decide (0 ≤ (pc : Int) + o)
  | .if_icmp _ o => decide (0 ≤ (pc : Int) + o)
  | .ifnull o => decide (0 ≤ (pc : Int) + o)
  | .ifnonnull o => decide (0 ≤ (pc : Int) + o)
  | .tableswitch d lo hi os => decide (0 ≤ (pc : Int) + d) && os.toList.all (fun o => decide (0 ≤ (pc : Int) + o)) && decide ((os.size : Int) = hi - lo + 1)
  | _ => true
def chkC (P : List (Nat × XP × Nat × Nat)) (b : ByteArray) (pc : Nat) (C : List XI) : Bool := match C with
  | [] => true
  | q :: r => decide (decode b pc = .ok (q.1, q.2.1)) && decide (ilen q.1 q.2.1 = q.2.1) && decide (1 ≤ q.2.1) && okI P pc q && chkC P b (pc + q.2.1) r
def clen (C : List XI) : Nat := match C with
  | [] => 0
  | q :: r => q.2.1 + clen r
theorem chkC_app {P : List (Nat × XP × Nat × Nat)} {b : ByteArray} : ∀ {A B : List XI} {pc pc2 : Nat}, chkC P b pc A = true → pc + clen A = pc2 → chkC P b pc2 B = true → chkC P b pc (A ++ B) = true := by
  intro A
  induction A with
  | nil => intro B pc pc2 _ h h2; simp [clen] at h; subst h; exact h2
  | cons q A ih =>
    intro B pc pc2 h1 h h2
    simp only [chkC, List.cons_append, Bool.and_eq_true] at h1 ⊢
    exact ⟨h1.1, ih h1.2 (by simp only [clen] at h; omega) h2⟩
