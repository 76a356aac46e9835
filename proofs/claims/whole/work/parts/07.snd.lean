def LH (G : XG) (ls : Array Slot) (n : Nat) (L : XL) : Prop := ls.size = n ∧ lv_wf ls ∧ L.length = n ∧ ∀ (i : Nat) (v : XV), L[i]? = some (some v) → ls[i]? = some (.val (cV G v))
def al (G : XG) (L : XL) : List (Nat × Value) := L.zipIdx.filterMap (fun q => q.1.map (fun v => (q.2, cV G v)))
theorem al_mem {G : XG} {L : XL} {q : Nat × Value} : q ∈ al G L ↔ ∃ v, L[q.1]? = some (some v) ∧ q.2 = cV G v := by
  unfold al
  rw [List.mem_filterMap]
  constructor
  · rintro ⟨⟨o, i⟩, h1, h2⟩
    have h3 := List.mem_zipIdx_iff_getElem?.mp h1
    cases o with
    | none => cases h2
    | some v =>
      simp only [Option.map_some, Option.some.injEq] at h2
      subst h2
      exact ⟨v, h3, rfl⟩
  · rintro ⟨v, h1, h2⟩
    exact ⟨(some v, q.1), List.mem_zipIdx_iff_getElem?.mpr h1, by rw [Option.map_some, ← h2]⟩
theorem LH.has {G : XG} {ls : Array Slot} {n : Nat} {L : XL} (h : LH G ls n L) : lv_has ls n (al G L) := ⟨h.1, h.2.1, fun q hq => by
  obtain ⟨v, h1, h2⟩ := al_mem.mp hq
  rw [h2]
  exact h.2.2.2 _ _ h1⟩
theorem sclr_get {L : XL} {i j : Nat} {u : XV} (h : (sclr L i)[j]? = some (some u)) : L[j]? = some (some u) ∧ ¬ (j + 1 = i ∧ xcat u = 2) := by
  unfold sclr at h
  split at h
  · exact ⟨h, fun q => by omega⟩
  · rename_i k
    split at h
    · rename_i y hy
      by_cases hj : j = k
      · subst hj
        have hlt : j < L.length := (List.getElem?_eq_some_iff.mp hy).1
        rw [List.getElem?_set_self hlt] at h
        cases h
      · rw [List.getElem?_set_ne (fun e => hj e.symm)] at h
        exact ⟨h, fun q => hj (by omega)⟩
    · rename_i hn
      refine ⟨h, fun q => ?_⟩
      have e : j = k := by omega
      subst e
      match u, h, q.2 with
      | .inl x, _, z => simp [xcat] at z
      | .inr (.inl x), h, _ => exact hn x h
      | .inr (.inr x), _, z => simp [xcat] at z
theorem sclr_len (L : XL) (i : Nat) : (sclr L i).length = L.length := by
  unfold sclr
  split
  · rfl
  · split <;> simp
theorem LH.sto1 {G : XG} {ls ls' : Array Slot} {n i : Nat} {L : XL} {v : XV} (h : LH G ls n L) (h2 : lv_has ls' n ((i, cV G v) :: (al G L).filter (fun q => !(q.1 == i) && !(q.1 + 1 == i && q.2.category == 2)))) : LH G ls' n (sto1 L i v) := by
  refine ⟨h2.1, h2.2.1, by unfold Jvm.Pilot.@@N@@.sto1; simp [sclr_len, h.2.2.1], fun j u hj => ?_⟩
  unfold Jvm.Pilot.@@N@@.sto1 at hj
  by_cases e : j = i
  · subst e
    have hlt : j < (sclr L j).length := by
      have := (List.getElem?_eq_some_iff.mp hj).1
      simpa using this
    rw [List.getElem?_set_self hlt] at hj
    cases hj
    exact h2.2.2 _ List.mem_cons_self
  · rw [List.getElem?_set_ne (fun z => e z.symm)] at hj
    obtain ⟨h3, h4⟩ := sclr_get hj
    refine h2.2.2 (j, cV G u) (List.mem_cons_of_mem _ (List.mem_filter.mpr ⟨al_mem.mpr ⟨u, h3, rfl⟩, ?_⟩))
    simp only [Bool.and_eq_true, Bool.not_eq_true', beq_eq_false_iff_ne, ne_eq, Bool.and_eq_false_iff, cV_cat]
    refine ⟨e, ?_⟩
    by_cases z : j + 1 = i
    · exact Or.inr (fun q => h4 ⟨z, q⟩)
    · exact Or.inl z
theorem LH.sto2 {G : XG} {ls ls' : Array Slot} {n i : Nat} {L : XL} {v : XV} (h : LH G ls n L) (h2 : lv_has ls' n ((i, cV G v) :: (al G L).filter (fun q => !(q.1 == i) && (!(q.1 == i + 1) && !(q.1 + 1 == i && q.2.category == 2))))) : LH G ls' n (sto2 L i v) := by
  refine ⟨h2.1, h2.2.1, by unfold Jvm.Pilot.@@N@@.sto2; simp [sclr_len, h.2.2.1], fun j u hj => ?_⟩
  unfold Jvm.Pilot.@@N@@.sto2 at hj
  by_cases e1 : j = i + 1
  · subst e1
    by_cases hlt : i + 1 < ((sclr L i).set i (some v)).length
    · rw [List.getElem?_set_self hlt] at hj
      cases hj
    · have := (List.getElem?_eq_some_iff.mp hj).1
      rw [List.length_set] at this
      exact absurd this hlt
  · rw [List.getElem?_set_ne (fun z => e1 z.symm)] at hj
    by_cases e : j = i
    · subst e
      have hlt : j < (sclr L j).length := by
        have := (List.getElem?_eq_some_iff.mp hj).1
        simpa using this
      rw [List.getElem?_set_self hlt] at hj
      cases hj
      exact h2.2.2 _ List.mem_cons_self
    · rw [List.getElem?_set_ne (fun z => e z.symm)] at hj
      obtain ⟨h3, h4⟩ := sclr_get hj
      refine h2.2.2 (j, cV G u) (List.mem_cons_of_mem _ (List.mem_filter.mpr ⟨al_mem.mpr ⟨u, h3, rfl⟩, ?_⟩))
      simp only [Bool.and_eq_true, Bool.not_eq_true', beq_eq_false_iff_ne, ne_eq, Bool.and_eq_false_iff, cV_cat]
      refine ⟨e, e1, ?_⟩
      by_cases z : j + 1 = i
      · exact Or.inr (fun q => h4 ⟨z, q⟩)
      · exact Or.inl z
theorem cV_rf (G : XG) (x : Option Nat) : cV G (.inr (.inr x)) = .null ∨ ∃ a, cV G (.inr (.inr x)) = .ref a := by
  cases x with
  | none => exact Or.inl rfl
  | some b =>
    show cR G b = .null ∨ ∃ a, cR G b = .ref a
    unfold cR
    split
    · exact Or.inr ⟨_, rfl⟩
    · cases G.2.2.2 (b - 1000000) with
      | none => exact Or.inl rfl
      | some t => exact Or.inr ⟨t, rfl⟩
section Rows
variable {p : Program} {l : Launch} {e : Env} {R : Room} {s : State} {m : MethodId} {args : Array Value} {below : List Frame} {meth : Method} {c : Code} {H : Heap} {locs : List Loc} {cells slots : Nat} {Q : State → Prop} {cc : ByteArray} {pc : Nat} {ls : Array Slot} {rest : List Value} {w : Value}
theorem w_aload (hexec : p.tables.exec = Jvm.exec) (hb : c.code = cc) {i : Nat} (hw : w = .null ∨ ∃ a, w = .ref a) (hdg : decode cc pc = .ok (.aload i, 2)) (hl : ls[i]? = some (.val w)) (k : W p l e R s m args below meth c H locs cells slots Q (F0 m (pc + 2) ls (w :: rest))) : W p l e R s m args below meth c H locs cells slots Q (F0 m pc ls rest) := by
  rcases hw with rfl | ⟨a, rfl⟩
  · exact lv_aloadN hexec hb hdg hl k
  · exact lv_aload hexec hb hdg hl k
theorem w_aload_n (hexec : p.tables.exec = Jvm.exec) (hb : c.code = cc) {i : Fin 4} (hw : w = .null ∨ ∃ a, w = .ref a) (hdg : decode cc pc = .ok (.aload_n i, 1)) (hl : ls[i.val]? = some (.val w)) (k : W p l e R s m args below meth c H locs cells slots Q (F0 m (pc + 1) ls (w :: rest))) : W p l e R s m args below meth c H locs cells slots Q (F0 m pc ls rest) := by
  rcases hw with rfl | ⟨a, rfl⟩
  · exact lv_aload_nN hexec hb hdg rfl hl k
  · exact lv_aload_n hexec hb hdg rfl hl k
theorem w_astore (hexec : p.tables.exec = Jvm.exec) (hb : c.code = cc) {i nL : Nat} {lv lv' : List (Nat × Value)} (hw : w = .null ∨ ∃ a, w = .ref a) (hdg : decode cc pc = .ok (.astore i, 2)) (h : lv_has ls nL lv) (hn : i < nL) (hl : (i, w) :: lv.filter (fun q => !(q.1 == i) && !(q.1 + 1 == i && q.2.category == 2)) = lv')
    (kk : ∀ ls' : Array Slot, lv_has ls' nL lv' → W p l e R s m args below meth c H locs cells slots Q (F0 m (pc + 2) ls' rest)) : W p l e R s m args below meth c H locs cells slots Q (F0 m pc ls (w :: rest)) := by
  rcases hw with rfl | ⟨a, rfl⟩
  · exact lv_astoreN hexec hb hdg h hn hl kk
  · exact lv_astore hexec hb hdg h hn hl kk
theorem w_astore_n (hexec : p.tables.exec = Jvm.exec) (hb : c.code = cc) {i : Fin 4} {nL : Nat} {lv lv' : List (Nat × Value)} (hw : w = .null ∨ ∃ a, w = .ref a) (hdg : decode cc pc = .ok (.astore_n i, 1)) (h : lv_has ls nL lv) (hn : i.val < nL) (hl : (i.val, w) :: lv.filter (fun q => !(q.1 == i.val) && !(q.1 + 1 == i.val && q.2.category == 2)) = lv')
    (kk : ∀ ls' : Array Slot, lv_has ls' nL lv' → W p l e R s m args below meth c H locs cells slots Q (F0 m (pc + 1) ls' rest)) : W p l e R s m args below meth c H locs cells slots Q (F0 m pc ls (w :: rest)) := by
  rcases hw with rfl | ⟨a, rfl⟩
  · exact lv_astore_nN hexec hb hdg rfl h hn hl kk
  · exact lv_astore_n hexec hb hdg rfl h hn hl kk
/-- how large the heap is at most -/
theorem w_size {g : JFrame} (k : H.size ≤ s.heap.size + cells → W p l e R s m args below meth c H locs cells slots Q g) : W p l e R s m args below meth c H locs cells slots Q g := fun T hT X => k (by rw [← hT]; exact X.heapSize) T hT X
end Rows
def Fx (p : Program) (s : State) (m : MethodId) (args : Array Value) (meth : Method) (c : Code) (cc : ByteArray) (nL : Nat) (own : String) (G : XG) (X : XE) (ini : Bool) (n0 : Nat) : Prop :=
  p.tables.exec = Jvm.exec ∧ c.code = cc ∧ c.maxLocals = nL ∧ s.vm.findClass own = some m.cls ∧ (∀ w ∈ XW, w.before args s = true) ∧ va_K G.2.1 xcl (xtl G) s ∧ EX G X s s.heap ∧ (ini = true → meth.name = "<init>") ∧ s.heap.size = G.1 + n0
/-- from here on the real machine does what k says -/
def Go (p : Program) (l : Launch) (e : Env) (R : Room) (s : State) (m : MethodId) (args : Array Value) (below : List Frame) (meth : Method) (c : Code) (Q : State → Prop) (nL : Nat) (G : XG) (n0 s0 : Nat) (r : XR) (pc : Nat) (k : XL → XS → XH → Option XR) : Prop :=
  ∀ (L : XL) (st : XS) (h : XH), k L st h = some r → ∀ (ls : Array Slot) (H : Heap) (locs : List Loc), LH G ls nL L → n0 ≤ h.1.length → s0 ≤ slt h.1 → va_P G.2.1 xcl (cW G h) H → va_S (xA G) s.heap H locs →
    W p l e R s m args below meth c H locs (h.1.length - n0) (slt h.1 - s0) Q (F0 m pc ls (st.map (cV G)))
