/-! laws out of clauses -/
def oE1 (q : Bool) (e : Ex) : Prop := ∃ L, okE q (wvF q) L e ∧ L ≤ 50
def oT1 (q : Bool) (t : Te) : Prop := ∃ L, okTe q (wvF q) L t ∧ L ≤ 50
def gOK (q : Bool) (g : GC) : Prop := g.1 < 4 ∧ (1 ≤ g.2.1 ∧ g.2.1 ≤ 20) ∧ (∀ e, g.2.2.1 = some e → oE1 q e) ∧ (∀ e, g.2.2.2.1 = some e → oE1 q e) ∧ (∀ t, g.2.2.2.2 = some t → oT1 q t) ∧ (g.1 = 3 ↔ g.2.2.1 = none) ∧ (q = true → (g.2.2.2.1 = none ↔ g.2.2.1 = none)) ∧ (q = false → g.2.2.2.1 = none)
theorem GF_E {q : Bool} {nt : Nat} {f : Nat → Nat → Rd Ex} (h : GF nt (oE q (wvF q)) f) {c i : Nat} (hc : c ≤ 50) (hi : i ≤ nt) {x : Ex} {c' i' : Nat} (e : f c i = .inr (x, c', i')) : oE1 q x ∧ c' ≤ 50 ∧ i' ≤ nt := by
  have := h c i hc hi
  rw [e] at this
  obtain ⟨L, n, h1, h2, h3, h4, h5, h6⟩ := this
  have h2 : c' = c + L := h2
  have h3 : c' ≤ 50 := h3
  exact ⟨⟨L, h1.1, by omega⟩, h3, h6⟩
theorem GF_T {q : Bool} {nt : Nat} {f : Nat → Nat → Rd Te} (h : GF nt (oT q (wvF q)) f) {c i : Nat} (hc : c ≤ 50) (hi : i ≤ nt) {x : Te} {c' i' : Nat} (e : f c i = .inr (x, c', i')) : oT1 q x ∧ c' ≤ 50 ∧ i' ≤ nt := by
  have := h c i hc hi
  rw [e] at this
  obtain ⟨L, n, h1, h2, h3, h4, h5, h6⟩ := this
  have h2 : c' = c + L := h2
  have h3 : c' ≤ 50 := h3
  exact ⟨⟨L, h1.1, by omega⟩, h3, h6⟩
section gk
variable {q : Bool} {tk : Nat → Nat} {nt : Nat}
theorem tk_lt (he : tk nt = 9999) {i w : Nat} (hi : i ≤ nt) (h : tk i = w) (hw : w ≤ 4000) : i < nt := by
  rcases Nat.lt_or_ge i nt with z | z
  · exact z
  · rw [show i = nt by omega, he] at h; omega
theorem pIf_ok (he : tk nt = 9999) {c i : Nat} (hc : c ≤ 50) (hi : i ≤ nt) {t : Option Te} {c' i' : Nat} (e : pIf q tk c i = .inr (t, c', i')) : (∀ u, t = some u → oT1 q u) ∧ c' ≤ 50 ∧ i' ≤ nt := by
  unfold pIf at e
  by_cases h : tk i = 2011
  · rw [if_pos h] at e
    have hlt := tk_lt he hi h (by omega)
    obtain ⟨x, c1, i1, g1, g2⟩ := thn_r e
    injection g2 with g2
    injection g2 with ha g2
    injection g2 with hb hd
    subst ha; subst hb; subst hd
    obtain ⟨o1, o2, o3⟩ := GF_T (GF_test he (wvF_ok q) 8) hc (by omega) g1
    exact ⟨fun u hu => by injection hu with hu; rw [← hu]; exact o1, o2, o3⟩
  · rw [if_neg h] at e
    injection e with e
    injection e with ha e
    injection e with hb hd
    subst ha; subst hb; subst hd
    exact ⟨fun u hu => (by cases hu), hc, hi⟩
theorem pTimes_ok (he : tk nt = 9999) {c i : Nat} (hc : c ≤ 50) (hi : i ≤ nt) {m c' i' : Nat} (e : pTimes tk c i = .inr (m, c', i')) : (1 ≤ m ∧ m ≤ 20) ∧ c' ≤ 50 ∧ i' ≤ nt := by
  unfold pTimes at e
  by_cases h : tk i = 2010
  · rw [if_pos h] at e
    have hlt := tk_lt he hi h (by omega)
    cases hn : numT (tk (i + 1)) with
    | none => rw [hn] at e; cases e
    | some v =>
      rw [hn] at e
      simp only at e
      have := (numT_ok hn).2
      have hlt2 := tk_lt he (show i + 1 ≤ nt by omega) rfl (by have := (numT_ok hn).1; omega)
      by_cases hv : 1 ≤ v ∧ v ≤ 20
      · rw [if_pos hv] at e
        injection e with e
        injection e with ha e
        injection e with hb hd
        subst ha; subst hb; subst hd
        exact ⟨hv, hc, by omega⟩
      · rw [if_neg hv] at e; cases e
  · rw [if_neg h] at e
    injection e with e
    injection e with ha e
    injection e with hb hd
    subst ha; subst hb; subst hd
    exact ⟨by omega, hc, hi⟩
theorem pLaw_ok {tk : Nat → Nat} (he : tk nt = 9999) {c i : Nat} (hc : c ≤ 50) (hi : i ≤ nt) {g : GC} {c' i' : Nat} (e : pLaw false tk c i = .inr (g, c', i')) : gOK false g ∧ c' ≤ 50 ∧ i' ≤ nt := by
  unfold pLaw at e
  by_cases h : 2000 ≤ tk i ∧ tk i ≤ 2003
  · rw [if_pos h] at e
    have hlt := tk_lt he hi rfl (show tk i ≤ 4000 by omega)
    by_cases h3 : tk i = 2003
    · rw [if_pos h3] at e
      obtain ⟨t, c1, i1, g1, g2⟩ := thn_r e
      injection g2 with g2
      injection g2 with ha g2
      injection g2 with hb hd
      subst ha; subst hb; subst hd
      obtain ⟨o1, o2, o3⟩ := pIf_ok he hc (by omega) g1
      exact ⟨⟨by show 3 < 4; omega, ⟨Nat.le_refl _, by show 1 ≤ 20; omega⟩, fun x hx => by (cases hx), fun x hx => by (cases hx), o1, ⟨fun _ => rfl, fun _ => rfl⟩, fun z => by (cases z), fun _ => rfl⟩, o2, o3⟩
    · rw [if_neg h3] at e
      obtain ⟨x, c1, i1, g1, g2⟩ := thn_r e
      obtain ⟨p1, p2, p3⟩ := GF_E (GF_sum he (wvF_ok false) 8) hc (by omega) g1
      obtain ⟨t, c2, i2, g3, g4⟩ := thn_r g2
      obtain ⟨o1, o2, o3⟩ := pIf_ok he p2 p3 g3
      injection g4 with g4
      injection g4 with ha g4
      injection g4 with hb hd
      subst ha; subst hb; subst hd
      exact ⟨⟨by show tk i - 2000 < 4; omega, ⟨Nat.le_refl _, by show 1 ≤ 20; omega⟩, fun y hy => by (injection hy with hy; rw [← hy]; exact p1), fun y hy => by (cases hy), o1, ⟨fun z => by have z : tk i - 2000 = 3 := z; omega, fun z => by (cases z)⟩, fun z => by (cases z), fun _ => rfl⟩, o2, o3⟩
  · rw [if_neg h] at e; cases e
theorem pOrd_ok {tk : Nat → Nat} (he : tk nt = 9999) {c i : Nat} (hc : c ≤ 50) (hi : i ≤ nt) {g : GC} {c' i' : Nat} (e : pOrd true tk c i = .inr (g, c', i')) : gOK true g ∧ c' ≤ 50 ∧ i' ≤ nt := by
  unfold pOrd at e
  by_cases h : 2004 ≤ tk i ∧ tk i ≤ 2007
  · rw [if_pos h] at e
    have hlt := tk_lt he hi rfl (show tk i ≤ 4000 by omega)
    by_cases h3 : tk i = 2007
    · rw [if_pos h3] at e
      obtain ⟨m, c1, i1, g1, g2⟩ := thn_r e
      obtain ⟨p1, p2, p3⟩ := pTimes_ok he hc (by omega) g1
      obtain ⟨t, c2, i2, g3, g4⟩ := thn_r g2
      obtain ⟨o1, o2, o3⟩ := pIf_ok he p2 p3 g3
      injection g4 with g4
      injection g4 with ha g4
      injection g4 with hb hd
      subst ha; subst hb; subst hd
      exact ⟨⟨by show 3 < 4; omega, p1, fun x hx => by (cases hx), fun x hx => by (cases hx), o1, ⟨fun _ => rfl, fun _ => rfl⟩, fun _ => ⟨fun _ => rfl, fun _ => rfl⟩, fun _ => rfl⟩, o2, o3⟩
    · rw [if_neg h3] at e
      obtain ⟨x, c1, i1, g1, g2⟩ := thn_r e
      obtain ⟨p1, p2, p3⟩ := GF_E (GF_sum he (wvF_ok true) 8) hc (by omega) g1
      by_cases hw : tk i1 = (if tk i = 2004 then 2008 else 2009)
      · rw [if_pos hw] at g2
        have hlt1 := tk_lt he p3 hw (by split <;> omega)
        obtain ⟨x2, c2, i2, g3, g4⟩ := thn_r g2
        obtain ⟨r1, r2, r3⟩ := GF_E (GF_sum he (wvF_ok true) 8) p2 (by omega) g3
        obtain ⟨m, c3, i3, g5, g6⟩ := thn_r g4
        obtain ⟨s1, s2, s3⟩ := pTimes_ok he r2 r3 g5
        obtain ⟨t, c4, i4, g7, g8⟩ := thn_r g6
        obtain ⟨o1, o2, o3⟩ := pIf_ok he s2 s3 g7
        injection g8 with g8
        injection g8 with ha g8
        injection g8 with hb hd
        subst ha; subst hb; subst hd
        exact ⟨⟨by show tk i - 2004 < 4; omega, s1, fun y hy => by (injection hy with hy; rw [← hy]; exact p1), fun y hy => by (injection hy with hy; rw [← hy]; exact r1), o1, ⟨fun z => by have z : tk i - 2004 = 3 := z; omega, fun z => by (cases z)⟩, fun _ => ⟨fun z => by (cases z), fun z => by (cases z)⟩, fun z => by (cases z)⟩, o2, o3⟩
      · rw [if_neg hw] at g2; cases g2
  · rw [if_neg h] at e; cases e
theorem pText_ok (q : Bool) (he : tk nt = 9999) : ∀ (k : Nat) (gs : List GC) (c i : Nat) (gs' : List GC), c ≤ 50 → i ≤ nt → (∀ g, g ∈ gs → gOK q g) → pText q tk k gs c i = .inr gs' → gs' ≠ [] ∧ ∀ g, g ∈ gs' → gOK q g := by
  intro k
  induction k with
  | zero => intro gs c i gs' _ _ _ h; cases h
  | succ k ih =>
    intro gs c i gs' hc hi hg h
    unfold pText at h
    cases hp : pCl q tk c i with
    | inl e => rw [hp] at h; cases h
    | inr x =>
      rw [hp] at h
      simp only at h
      have hx : gOK q x.1 ∧ x.2.1 ≤ 50 ∧ x.2.2 ≤ nt := by
        unfold pCl at hp
        cases q with
        | true => rw [if_pos rfl] at hp; exact pOrd_ok he hc hi (show pOrd true tk c i = .inr (x.1, x.2.1, x.2.2) from hp)
        | false => rw [if_neg (by decide)] at hp; exact pLaw_ok he hc hi (show pLaw false tk c i = .inr (x.1, x.2.1, x.2.2) from hp)
      have hg2 : ∀ g, g ∈ gs ++ [x.1] → gOK q g := fun g hgm => by
        rcases List.mem_append.mp hgm with z | z
        · exact hg g z
        · rw [List.mem_singleton.mp z]; exact hx.1
      by_cases e9 : tk x.2.2 = 9999
      · rw [if_pos e9] at h
        injection h with h
        subst h
        exact ⟨by simp, hg2⟩
      · rw [if_neg e9] at h
        by_cases es : tk x.2.2 = 59
        · rw [if_pos es] at h
          exact ih (gs ++ [x.1]) x.2.1 (x.2.2 + 1) gs' hx.2.1 (by have := tk_lt he hx.2.2 es (by omega); omega) hg2 h
        · rw [if_neg es] at h; cases h
end gk
/-- where a clause's code lies -/
theorem cF_at (f : GC → Nat → Cd) : ∀ (m : Nat) (gs : List GC), gs.length = m → ∀ j g, gs[j]? = some g → ∃ R, gs.foldl (fun C g => C ++ f g C.length) [] = (gs.take j).foldl (fun C g => C ++ f g C.length) [] ++ (f g ((gs.take j).foldl (fun C g => C ++ f g C.length) []).length ++ R) := by
  intro m
  induction m with
  | zero => intro gs h j g hj; rw [List.length_eq_zero_iff.mp h] at hj; cases hj
  | succ m ih =>
    intro gs h j g hj
    rcases List.eq_nil_or_concat gs with e | ⟨t, x, e⟩
    · rw [e] at h; cases h
    · have e : gs = t ++ [x] := by rw [e, List.concat_eq_append]
      subst e
      rw [List.length_append, List.length_singleton] at h
      rw [List.foldl_append]
      by_cases c : j < t.length
      · rw [List.getElem?_append_left c] at hj
        obtain ⟨R, hR⟩ := ih t (by omega) j g hj
        rw [List.take_append_of_le_length (by omega)]
        generalize hT : t.foldl (fun C g => C ++ f g C.length) [] = T at hR ⊢
        refine ⟨R ++ f x T.length, ?_⟩
        show T ++ f x T.length = _
        conv => lhs; lhs; rw [hR]
        simp only [List.append_assoc]
      · have hl : j < (t ++ [x]).length := (List.getElem?_eq_some_iff.mp hj).1
        rw [List.length_append, List.length_singleton] at hl
        have : j = t.length := by omega
        subst this
        rw [List.getElem?_append_right (by omega), Nat.sub_self] at hj
        injection hj with hj
        subst hj
        rw [List.take_append_of_le_length (by omega), List.take_length]
        exact ⟨[], by simp⟩
theorem sgm_of {C A c B : Cd} (h : C = A ++ (c ++ B)) : sgm (fun k => C.getD k (0, 0)) A.length c := by
  intro k x hx
  have hk : k < c.length := (List.getElem?_eq_some_iff.mp hx).1
  show C.getD (A.length + k) (0, 0) = x
  rw [h, List.getD_eq_getElem?_getD, List.getElem?_append_right (by omega), show A.length + k - A.length = k by omega, List.getElem?_append_left hk, hx]
  rfl
theorem sgm_l {cd : Nat → Nat × Nat} {b : Nat} {a c : Cd} (h : sgm cd b (a ++ c)) : sgm cd b a := (sgm_app h).1
/-- what the class reckons from a place on -/
theorem ev_of {nw : Nat} {c : Cd} {b L sz : Nat} {f : Dn} {cd : Nat → Nat × Nat} (h : DC nw c b L f) (hL : L ≤ 50) (hs : sgm cd b (c ++ [(0, 0)])) (hz : b + c.length + 1 ≤ sz) (w : Nat → Int32) : f w = ev cd sz w nw sz b [] := by
  obtain ⟨s1, s2⟩ := sgm_app hs
  have e := (sgm_cons s2).1
  obtain ⟨a1, a2⟩ := h cd sz w s1 (by omega) [] (by show 0 + L ≤ 64; omega)
  cases hf : f w with
  | none => exact (a2 hf sz).symm
  | some v =>
    obtain ⟨k, k1, k2⟩ := a1 v hf
    have := k2 (sz - k)
    rw [show sz - k + k = sz by omega] at this
    rw [this]
    obtain ⟨m, hm⟩ : ∃ m, sz - k = m + 1 := ⟨sz - k - 1, by omega⟩
    rw [hm]
    conv => rhs; unfold ev
    rw [if_pos (by omega), e, if_pos rfl]
    rfl
/-- what the reference reckons of a stretch -/
theorem evm_of {W : Wv} {c : Cd} {b L : Nat} {f : Dn} {cd : Nat → Nat × Nat} (h : DM W c b L f) (hL : L ≤ 50) (hs : sgm cd b c) (w : Nat → Int32) : ∃ m, evm cd (W w) (b + c.length) m b [] = some (f w) := by
  obtain ⟨a1, a2⟩ := h cd (b + c.length) w hs (Nat.le_refl _) [] (by show 0 + L ≤ 400; omega)
  cases hf : f w with
  | none => exact a2 hf
  | some v =>
    obtain ⟨k, hk⟩ := a1 v hf
    refine ⟨1 + k, ?_⟩
    rw [hk 1, evm_s, if_pos (Nat.le_refl _)]
    rfl
def denT (t : Option Te) : Dn := match t with
  | none => fun _ => some (lN 1)
  | some t => t.2.2
def denE (e : Option Ex) : Dn := match e with
  | none => fun _ => some (lN 1)
  | some e => e.2.2
def clO (g : GC) : CL := (g.1, denT g.2.2.2.2, denE g.2.2.1)
def lawW (gs : List GC) : Lw := (fun j => match gs[j]? with
  | none => (0, fun _ => none, fun _ => none)
  | some g => clO g, gs.length)
