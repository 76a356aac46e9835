/-! what the small machine's words stand for in the real one -/
/-- the first address of our own cells; the classes' numbers and slots; the array classes (int, long, boolean, World, Program); the addresses of what was there before -/
abbrev XG : Type := Nat × va_G × (Nat → ClassId) × (Nat → Option Nat)
def cR (G : XG) (b : Nat) : Value := if b < 1000000 then .ref (G.1 + b) else va_rf (G.2.2.2 (b - 1000000))
def cV (G : XG) (v : XV) : Value := match v with
  | .inl x => .int x
  | .inr (.inl x) => .long x
  | .inr (.inr none) => .null
  | .inr (.inr (some b)) => cR G b
def cF (G : XG) (ty : Nat) (x : Int32) (y : Int64) (r : Option Nat) : Value := if ty = 0 ∨ ty = 3 then .int x else if ty = 1 then .long y else cV G (.inr (.inr r))
def cFs (G : XG) (ci n : Nat) (iv : Nat → Int32) (lv : Nat → Int64) (rs : List (Option Nat)) : List Value := (List.range n).map (fun j => cF G (xty ci j) (iv j) (lv j) (rs.getD j none))
def cRs (G : XG) (rs : List (Option Nat)) : Nat → Option Nat := fun j => (rs.getD j none).map (fun b => G.1 + b)
def cC (G : XG) (iv : Nat → Int32) (lv : Nat → Int64) (c : XC) : va_E :=
  if c.1 < 50 then .inr (c.1, cFs G c.1 c.2.1 iv lv c.2.2)
  else if c.1 = 50 then .inl (G.2.2.1 0, c.2.1, .inl iv)
  else if c.1 = 51 then .inl (G.2.2.1 1, c.2.1, .inr (.inl lv))
  else if c.1 = 52 then .inl (G.2.2.1 2, c.2.1, .inl iv)
  else if c.1 = 53 then .inl (G.2.2.1 3, c.2.1, .inr (.inr (.inr (.inr (cRs G c.2.2)))))
  else .inl (G.2.2.1 4, c.2.1, .inr (.inr (.inr (.inr (cRs G c.2.2)))))
def cW (G : XG) (h : XH) : va_W := h.1.mapIdx (fun a c => (G.1 + a, cC G (h.2.1 a) (h.2.2 a) c))
def xA (G : XG) : Nat → Prop := fun q => G.1 ≤ q
def xtl (G : XG) : List (ClassId × FieldType) := [(G.2.2.1 0, .int), (G.2.2.1 1, .long), (G.2.2.1 2, .boolean), (G.2.2.1 3, .object "TamerState$World"), (G.2.2.1 4, .object "TamerState$Program")]
def xtx3 : String := "angers hungers pays bars crack feed move pass at to times if or and not "
def xtx5 : String := "tamer province hunger temper memory nerve meat tub day mood done latest arms "
/-- what was there before the law began, as it is at a state -/
def EX (G : XG) (X : XE) (U : State) (H : Heap) : Prop :=
  (∀ (j : Nat) (q : Nat × (Nat → Int32)), X j = some q → (j < 3 ∨ j = 4 ∨ j = 6) ∧ ∃ t, G.2.2.2 j = some t ∧ va_T (if j < 3 then .int else .byte) t q.1 (fun i => .int (q.2 i)) (xA G) U H) ∧
  (∃ t, G.2.2.2 1 = some t ∧ va_Z "TamerState" "REFUSALS" "[I" (.ref t) (xA G) U H) ∧
  (∃ t, G.2.2.2 2 = some t ∧ va_Z "TamerState" "TOP_TERMS" "[I" (.ref t) (xA G) U H) ∧
  va_Z "jdk/internal/util/Preconditions" "SIOOBE_FORMATTER" "Ljava/util/function/BiFunction;" (va_rf (G.2.2.2 7)) (xA G) U H ∧
  va_Z "java/lang/String" "COMPACT_STRINGS" "Z" (.int 1) (xA G) U H ∧
  (∀ j, j = 3 ∨ j = 5 → ∃ t v, G.2.2.2 j = some t ∧ G.2.2.2 (j + 1) = some v ∧ va_O "java/lang/String" t (xA G) U H ∧ va_OF "java/lang/String" "coder" "B" (.int 0) t (xA G) U H ∧ va_OF "java/lang/String" "value" "[B" (.ref v) t (xA G) U H) ∧
  (∃ t, G.2.2.2 3 = some t ∧ vk_R "TamerState$Parser" 90 xtx3 t U) ∧ (∃ t, G.2.2.2 5 = some t ∧ vk_R "TamerState$Parser" 96 xtx5 t U) ∧
  (∀ w ∈ XN, va_Nw w U) ∧ va_AO "TamerState$World" U ∧ va_AO "TamerState$Program" U
theorem XN_tab {w : Cond} (h : w ∈ XN) : w.onTables = true := by
  have h2 := (List.mem_filter.mp h).2
  unfold goodN at h2
  split at h2 <;> first | rfl | cases h2
theorem EX.kept {G : XG} {X : XE} {U : State} {H H1 : Heap} (h : EX G X U H) (hq : ∀ a : Nat, a < H.size → ¬ xA G a → H1[a]? = H[a]?) : EX G X U H1 := by
  obtain ⟨h1, ⟨t2, g2, h2⟩, ⟨t3, g3, h3⟩, h4, h5, h6, h7, h8, h9, h10, h11⟩ := h
  refine ⟨fun j q hj => ?_, ⟨t2, g2, h2.kept hq⟩, ⟨t3, g3, h3.kept hq⟩, h4.kept hq, h5.kept hq, fun j hj => ?_, h7, h8, h9, h10, h11⟩
  · obtain ⟨a, t, b, c⟩ := h1 j q hj
    exact ⟨a, t, b, c.kept hq⟩
  · obtain ⟨t, v, a, b, c, d, e⟩ := h6 j hj
    exact ⟨t, v, a, b, c.kept hq, d.kept hq, e.kept hq⟩
theorem EX.warm {G : XG} {X : XE} {s U : State} {H : Heap} (hW : s.WarmedH U.vm) (h : EX G X s H) : EX G X U H := by
  obtain ⟨h1, ⟨t2, g2, h2⟩, ⟨t3, g3, h3⟩, h4, h5, h6, ⟨t7, g7, h7⟩, ⟨t8, g8, h8⟩, h9, h10, h11⟩ := h
  have ha := hW.alike
  refine ⟨fun j q hj => ?_, ⟨t2, g2, h2.moved ha⟩, ⟨t3, g3, h3.moved ha⟩, h4.moved ha, h5.moved ha, fun j hj => ?_, ⟨t7, g7, h7.warm hW⟩, ⟨t8, g8, h8.warm hW⟩, fun w hw => ?_, h10.moved ha, h11.moved ha⟩
  · obtain ⟨a, t, b, c⟩ := h1 j q hj
    exact ⟨a, t, b, c.moved ha⟩
  · obtain ⟨t, v, a, b, c, d, e⟩ := h6 j hj
    exact ⟨t, v, a, b, c.moved ha, d.moved ha, e.moved ha⟩
  · have h2 := (List.mem_filter.mp hw).2
    have h3 := h9 w hw
    cases w <;> first | exact va_Nw.warmF hW h3 | exact va_Nw.warmM hW h3 | exact va_Nw.warmC hW h3 | exact absurd h2 (by simp [goodN])
theorem EX.same {G : XG} {X : XE} {s U : State} {H : Heap} (hv : U.vm = s.vm) (h : EX G X s H) : EX G X U H := by
  obtain ⟨h1, ⟨t2, g2, h2⟩, ⟨t3, g3, h3⟩, h4, h5, h6, ⟨t7, g7, h7⟩, ⟨t8, g8, h8⟩, h9, h10, h11⟩ := h
  have ha : s.vm.Alike U.vm := by rw [hv]; exact Vm.Alike.refl s.vm
  refine ⟨fun j q hj => ?_, ⟨t2, g2, h2.moved ha⟩, ⟨t3, g3, h3.moved ha⟩, h4.moved ha, h5.moved ha, fun j hj => ?_, ⟨t7, g7, h7.same hv⟩, ⟨t8, g8, h8.same hv⟩, fun w hw => (h9 w hw).same (XN_tab hw) hv.symm, h10.moved ha, h11.moved ha⟩
  · obtain ⟨a, t, b, c⟩ := h1 j q hj
    exact ⟨a, t, b, c.moved ha⟩
  · obtain ⟨t, v, a, b, c, d, e⟩ := h6 j hj
    exact ⟨t, v, a, b, c.moved ha, d.moved ha, e.moved ha⟩
theorem cV_cat (G : XG) (v : XV) : (cV G v).category = xcat v := by
  match v with
  | .inl x => rfl
  | .inr (.inl x) => rfl
  | .inr (.inr none) => rfl
  | .inr (.inr (some b)) =>
    show (cR G b).category = 1
    unfold cR
    split
    · rfl
    · cases G.2.2.2 (b - 1000000) <;> rfl
theorem cats_eq (G : XG) : ∀ st : XS, ((st.map (cV G)).map fun v => v.category).sum = xcats st := by
  intro st
  induction st with
  | nil => rfl
  | cons v r ih => simp only [List.map_cons, List.sum_cons, xcats, cV_cat, ih]
theorem cW_len (G : XG) (h : XH) : (cW G h).length = h.1.length := by simp [cW]
theorem cW_get {G : XG} {h : XH} {a : Nat} {c : XC} (hc : h.1[a]? = some c) : (cW G h)[a]? = some (G.1 + a, cC G (h.2.1 a) (h.2.2 a) c) := by simp [cW, List.getElem?_mapIdx, hc]
theorem cW_inv {G : XG} {h : XH} {a : Nat} {q : Nat × va_E} (hq : (cW G h)[a]? = some q) : ∃ c, h.1[a]? = some c ∧ q = (G.1 + a, cC G (h.2.1 a) (h.2.2 a) c) := by
  simp only [cW, List.getElem?_mapIdx, Option.map_eq_some_iff] at hq
  obtain ⟨c, h1, h2⟩ := hq
  exact ⟨c, h1, h2.symm⟩
theorem cW_D (G : XG) (h : XH) : va_D (xA G) (cW G h) := by
  refine ⟨fun i j p q hi hj e => ?_, fun k q hk => ?_⟩
  · obtain ⟨c, -, rfl⟩ := cW_inv hi
    obtain ⟨d, -, rfl⟩ := cW_inv hj
    have e : G.1 + i = G.1 + j := e
    omega
  · obtain ⟨c, -, rfl⟩ := cW_inv hk
    exact Nat.le_add_right _ _
theorem cW_set {G : XG} {h h2 : XH} {a : Nat} {c : XC} (hl : h2.1.length = h.1.length) (ho : ∀ b, b ≠ a → h2.1[b]? = h.1[b]? ∧ h2.2.1 b = h.2.1 b ∧ h2.2.2 b = h.2.2 b) (hc : h2.1[a]? = some c) : (cW G h).set a (G.1 + a, cC G (h2.2.1 a) (h2.2.2 a) c) = cW G h2 := by
  apply List.ext_getElem?
  intro b
  by_cases hb : b = a
  · subst hb
    have hlt : b < h2.1.length := (List.getElem?_eq_some_iff.mp hc).1
    rw [cW_get hc, List.getElem?_set_self (by rw [cW_len]; omega)]
  · rw [List.getElem?_set_ne (fun e => hb e.symm)]
    obtain ⟨e1, e2, e3⟩ := ho b hb
    simp only [cW, List.getElem?_mapIdx, e1, e2, e3]
theorem cW_app {G : XG} {h h2 : XH} {c : XC} (hs : h2.1 = h.1 ++ [c]) (ho : ∀ b, b ≠ h.1.length → h2.2.1 b = h.2.1 b ∧ h2.2.2 b = h.2.2 b) : cW G h2 = cW G h ++ [(G.1 + h.1.length, cC G (h2.2.1 h.1.length) (h2.2.2 h.1.length) c)] := by
  apply List.ext_getElem?
  intro b
  by_cases hb : b < h.1.length
  · rw [List.getElem?_append_left (by rw [cW_len]; exact hb)]
    obtain ⟨e2, e3⟩ := ho b (by omega)
    simp only [cW, List.getElem?_mapIdx, hs, List.getElem?_append_left hb, e2, e3]
  · rw [List.getElem?_append_right (by rw [cW_len]; omega)]
    by_cases he : b = h.1.length
    · subst he
      have : h2.1[h.1.length]? = some c := by rw [hs]; simp
      rw [cW_get this]
      simp [cW_len]
    · rw [cW_len]
      have h1 : h2.1[b]? = none := by rw [hs]; simp; omega
      have h2' : ([(G.1 + h.1.length, cC G (h2.2.1 h.1.length) (h2.2.2 h.1.length) c)])[b - h.1.length]? = none := by simp; omega
      rw [h2']
      simp [cW, List.getElem?_mapIdx, h1]
