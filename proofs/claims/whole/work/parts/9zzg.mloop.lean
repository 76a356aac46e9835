/-! orders: the same but for scene and log -/
def samS (A B : St) : Prop := B.1.2 = A.1.2 ∧ B.2.1 = A.2.1 ∧ B.2.2.1 = A.2.2.1 ∧ B.2.2.2.2 = A.2.2.2.2 ∧ statE A.1.1 B.1.1
theorem samS.rf {A : St} : samS A A := ⟨rfl, rfl, rfl, rfl, statE.rf⟩
theorem samS.tr {A B C : St} (h : samS A B) (h2 : samS B C) : samS A C := ⟨h2.1.trans h.1, h2.2.1.trans h.2.1, h2.2.2.1.trans h.2.2.1, h2.2.2.2.1.trans h.2.2.2.1, h.2.2.2.2.tr h2.2.2.2.2⟩
theorem sam_crack (t p : Int32) {A : St} (h : OKA A) : samS A (a_crack t p A).2 := by
  have hk := h.1.1
  unfold a_crack
  split
  · rename_i hh
    obtain ⟨a, b, ha, hb, rfl, rfl⟩ := has2 hk.1 hh
    have n1 := hk.1.np.2
    have n2 := hk.1.nt.2
    rw [nI_clamp (by omega), nI_clamp (by omega)]
    split
    · have g := gd_react hk (reaV A.1.1 (lawOf A.1).1 (lawOf A.1).2 a b) (n := nP A.1.1) (t := a) (p := b) (by omega) (by omega) (by omega)
      exact ⟨rfl, rfl, rfl, rfl, g.2⟩
    · exact samS.rf
  · exact samS.rf
theorem sam_feed (t p : Int32) {A : St} (h : OKA A) : samS A (a_feed t p A).2 := by
  have hk := h.1.1
  unfold a_feed
  split
  · rename_i hh
    obtain ⟨a, b, ha, hb, rfl, rfl⟩ := has2 hk.1 hh
    have n1 := hk.1.np.2
    have n2 := hk.1.nt.2
    rw [nI_clamp (by omega), nI_clamp (by omega)]
    split
    · exact samS.rf
    · have g := gd_feed hk ha hb
      exact ⟨rfl, rfl, rfl, rfl, g.2⟩
  · exact samS.rf
theorem sam_move (p b : Int32) {A : St} (h : OKA A) : samS A (a_move p b A).2 := by
  have hk := h.1.1
  have n1 := hk.1.np.2
  unfold a_move
  split
  · rename_i hb
    obtain ⟨m, hm, rfl⟩ := inV_of (by decide) hb
    split
    · rename_i hp
      obtain ⟨q, hq, rfl⟩ := hasV_of (by omega) hp
      rw [nI_clamp (by omega)]
      split
      · exact samS.rf
      · have g := gd_put hk (j := 17 + q) (m := m) (by omega) (by rw [tp_b (by omega)]; exact hm)
        exact ⟨rfl, rfl, rfl, rfl, g.2⟩
    · exact samS.rf
  · exact samS.rf
theorem sam_pass {A : St} (h : OKA A) : samS A (a_pass A).2 := by
  have hk := h.1.1
  unfold a_pass
  split
  · have g := gd_day (lawOf A.1).1 (lawOf A.1).2 hk.1.np.2 hk.1.nt.2 hk
    exact ⟨rfl, rfl, rfl, rfl, g.2⟩
  · exact samS.rf
theorem sam_act (g : GC) (w : Nat → Int32) {A : St} (ho : OKA A) : samS A (oAct g w A).2 := by
  unfold oAct
  by_cases h3 : g.1 = 3
  · rw [if_pos h3]; exact sam_pass ho
  · rw [if_neg h3]
    cases denE g.2.2.1 w with
    | none => exact samS.rf
    | some x =>
      cases denE g.2.2.2.1 w with
      | none => exact samS.rf
      | some y =>
        simp only
        by_cases h1 : g.1 = 1
        · rw [if_pos h1]; exact sam_feed _ _ ho
        rw [if_neg h1]
        by_cases h2 : g.1 = 2
        · rw [if_pos h2]; exact sam_move _ _ ho
        rw [if_neg h2]; exact sam_crack _ _ ho
theorem sam_one {g : GC} {s s' : St × Nat × Int32} (ho : OKA s.1) (h : oOne g s = some s') : samS s.1 s'.1 := by
  unfold oOne at h
  split at h
  · split at h
    · cases h
    · injection h with h
      rw [← h]
      exact sam_act g _ ho
  · injection h with h
    rw [← h]
    exact samS.rf
theorem sam_times {g : GC} : ∀ (m : Nat) (s s' : St × Nat × Int32), OKA s.1 → oTimes g m s = some s' → samS s.1 s'.1 ∧ OKA s'.1 := by
  intro m
  induction m with
  | zero => intro s s' ho h; injection h with h; rw [← h]; exact ⟨samS.rf, ho⟩
  | succ m ih =>
    intro s s' ho h
    unfold oTimes at h
    cases hr : oOne g s with
    | none => rw [hr] at h; cases h
    | some s1 =>
      rw [hr] at h
      have ho1 : OKA s1.1 := by
        unfold oOne at hr
        split at hr
        · split at hr
          · cases hr
          · rename_i hn
            injection hr with hr
            rw [← hr]
            rcases oAct_ok g (oW s.1.1.1 (nI s.2.1) s.2.2) s.1 ho with ⟨k, q1, q2⟩ | k
            · rw [q2] at hn; exact absurd (rc_neg q1).1 hn
            · exact k.2
        · injection hr with hr; rw [← hr]; exact ho
      obtain ⟨i1, i2⟩ := ih s1 s' ho1 h
      exact ⟨(sam_one ho hr).tr i1, i2⟩
/-! orders: the reference's loops -/
def stpM (X : XE) (cl : XCl) (im lw : List (Option Nat)) (tl : List XC) (v1 : Int32) (k : Nat) (A : St) (iv : Nat → Nat → Int32) (lv : Nat → Nat → Int64) (T : Option XR) : Prop := ∃ iv' lv' v, T = bV (cl 314 [.inr (.inr (some 46)), .inl v1] (SS im lw tl, iv', lv')) (fun h1 => run X cl false 1 xc308 182 [some (.inr (.inr (some 46))), some (.inl v1), some (.inl (nI k)), some (.inl v)] [] h1) ∧ frK iv iv' ∧ agK lv lv' ∧ ∃ B, RelM B iv' lv' ∧ samS A B
theorem stpM.tr {X : XE} {cl : XCl} {im lw : List (Option Nat)} {tl : List XC} {v1 : Int32} {k : Nat} {A A1 : St} {iv iv1 : Nat → Nat → Int32} {lv lv1 : Nat → Nat → Int64} {T : Option XR} (h : stpM X cl im lw tl v1 k A1 iv1 lv1 T) (f : frK iv iv1) (l : agK lv lv1) (sm : samS A A1) : stpM X cl im lw tl v1 k A iv lv T := by
  obtain ⟨iv', lv', v, h1, h2, h3, B, h4, h5⟩ := h
  exact ⟨iv', lv', v, h1, f.tr h2, l.tr h3, B, h4, sm.tr h5⟩
def otM (X : XE) (cl : XCl) (im lw : List (Option Nat)) (tl : List XC) (gs : List GC) (v1 : Int32) (i n : Nat) (A : St) (iv : Nat → Nat → Int32) (lv : Nat → Nat → Int64) (T : Option XR) (r : Option (St × Nat × Int32)) : Prop := match r with
  | none => stpM X cl im lw tl v1 i A iv lv T
  | some s => ∃ iv' lv', T = run X cl false 1 xc308 140 [some (.inr (.inr (some 46))), some (.inl v1), some (.inl (nI (i + 1))), some (.inl (nI n))] [] (SS im lw tl, iv', lv') ∧ invM gs s iv' lv' ∧ frK iv iv' ∧ agK lv lv'
theorem otM.tr {X : XE} {cl : XCl} {im lw : List (Option Nat)} {tl : List XC} {gs : List GC} {v1 : Int32} {i n : Nat} {A A1 : St} {iv iv1 : Nat → Nat → Int32} {lv lv1 : Nat → Nat → Int64} {T : Option XR} {r : Option (St × Nat × Int32)} (h : otM X cl im lw tl gs v1 i n A1 iv1 lv1 T r) (f : frK iv iv1) (l : agK lv lv1) (sm : samS A A1) : otM X cl im lw tl gs v1 i n A iv lv T r := by
  cases r with
  | none => exact stpM.tr h f l sm
  | some s =>
    obtain ⟨iv', lv', h1, h2, h3, h4⟩ := h
    exact ⟨iv', lv', h1, h2, f.tr h3, l.tr h4⟩
theorem m_oTimes (X : XE) (d : Nat) {im lw : List (Option Nat)} {tl : List XC} {gs : List GC} {i : Nat} {g : GC} (hg : gs[i]? = some g) (v1 : Int32) : ∀ (m j : Nat) (s : St × Nat × Int32) (iv : Nat → Nat → Int32) (lv : Nat → Nat → Int64), j + m = g.2.1 → invM gs s iv lv → otM X (call X xT (d + 14)) im lw tl gs v1 i g.2.1 s.1 iv lv (run X (call X xT (d + 14)) false 1 xc308 150 [some (.inr (.inr (some 46))), some (.inl v1), some (.inl (nI i)), some (.inl (nI j))] [] (SS im lw tl, iv, lv)) (oTimes g m s) := by
  intro m
  induction m with
  | zero =>
    intro j s iv lv hj hv
    have hp := hv.2.2.1
    have i12 : i < 12 := by have := (List.getElem?_eq_some_iff.mp hg).1; have := hp.2.2.1; omega
    obtain ⟨k0, k7, -, -, -⟩ := ord_mk hp i g hg
    have g20 := (hp.2.2.2.1 g (List.mem_of_getElem? hg)).2.1
    rw [sg308_150, pk_mul, nI_add, if_pos (inb_nI (by omega) (by omega)), nI_clamp (by omega), k7, if_pos (nI_le (by omega) (by omega)), nI_add, show j = g.2.1 by omega]
    exact ⟨iv, lv, rfl, hv, frK.rf, agK.rf⟩
  | succ m ih =>
    intro j s iv lv hj hv
    have hp := hv.2.2.1
    have i12 : i < 12 := by have := (List.getElem?_eq_some_iff.mp hg).1; have := hp.2.2.1; omega
    obtain ⟨k0, k7, -, -, -⟩ := ord_mk hp i g hg
    have g20 := (hp.2.2.2.1 g (List.mem_of_getElem? hg)).2.1
    have ho := m_oOne (X := X) (im := im) (lw := lw) (tl := tl) d hg hv
    rw [sg308_150, pk_mul, nI_add, if_pos (inb_nI (by omega) (by omega)), nI_clamp (by omega), k7, if_neg (nI_ge (by omega) (by omega))]
    unfold oTimes
    cases hr : oOne g s with
    | none =>
      rw [hr] at ho
      obtain ⟨iv', lv', f, l, e, er⟩ := ho
      have e : call X xT (d + 14) 311 [.inr (.inr (some 46)), .inl (nI (8 * i))] (SS im lw tl, iv, lv) = some (some (.inl (-3)), (SS im lw tl, iv', lv')) := e
      rw [e, bI_some, sg308_174, if_neg (by decide)]
      exact ⟨iv', lv', nI j, rfl, f, l, s.1, er, samS.rf⟩
    | some s' =>
      rw [hr] at ho
      obtain ⟨iv', lv', f, l, e, hv'⟩ := ho
      rw [e, bI_some, sg308_174, if_pos (by decide), nI_add]
      exact otM.tr (ih (j + 1) s' iv' lv' (by omega) hv') f l (sam_one hv.2.1 hr)
def oaM (X : XE) (cl : XCl) (im lw : List (Option Nat)) (tl : List XC) (gs : List GC) (v1 : Int32) (A : St) (iv : Nat → Nat → Int32) (lv : Nat → Nat → Int64) (T : Option XR) (r : Nat ⊕ (St × Nat × Int32)) : Prop := match r with
  | .inl k => stpM X cl im lw tl v1 k A iv lv T
  | .inr s => ∃ iv' lv' v w, T = bI (cl 198 [.inr (.inr (some 46)), .inl (iv' 46 52)] (SS im lw tl, iv', lv')) (fun r2 h1 => run X cl false 1 xc308 214 [some (.inr (.inr (some 46))), some (.inl v1), some (.inl v), w] [.inl r2] h1) ∧ invM gs s iv' lv' ∧ frK iv iv' ∧ agK lv lv'
theorem oaM.tr {X : XE} {cl : XCl} {im lw : List (Option Nat)} {tl : List XC} {gs : List GC} {v1 : Int32} {A A1 : St} {iv iv1 : Nat → Nat → Int32} {lv lv1 : Nat → Nat → Int64} {T : Option XR} {r : Nat ⊕ (St × Nat × Int32)} (h : oaM X cl im lw tl gs v1 A1 iv1 lv1 T r) (f : frK iv iv1) (l : agK lv lv1) (sm : samS A A1) : oaM X cl im lw tl gs v1 A iv lv T r := by
  cases r with
  | inl k => exact stpM.tr h f l sm
  | inr s =>
    obtain ⟨iv', lv', v, w, h1, h2, h3, h4⟩ := h
    exact ⟨iv', lv', v, w, h1, h2, f.tr h3, l.tr h4⟩
theorem m_oAll (X : XE) (d : Nat) {im lw : List (Option Nat)} {tl : List XC} {gs : List GC} (v1 : Int32) : ∀ (rest : List GC) (i : Nat) (s : St × Nat × Int32) (iv : Nat → Nat → Int32) (lv : Nat → Nat → Int64) (w3 : Option XV), i + rest.length = gs.length → (∀ j, rest[j]? = gs[i + j]?) → invM gs s iv lv → oaM X (call X xT (d + 14)) im lw tl gs v1 s.1 iv lv (run X (call X xT (d + 14)) false 1 xc308 140 [some (.inr (.inr (some 46))), some (.inl v1), some (.inl (nI i)), w3] [] (SS im lw tl, iv, lv)) (oAll rest i s) := by
  intro rest
  induction rest with
  | nil =>
    intro i s iv lv w3 hl hgs hv
    have hn := hv.2.2.1.2.2.1
    have h21 := hv.2.2.1.2.2.2.2.2.2
    have hl : i = gs.length := by simpa using hl
    rw [sg308_140, h21, if_pos (nI_le (by omega) (by omega))]
    exact ⟨iv, lv, _, _, rfl, hv, frK.rf, agK.rf⟩
  | cons g rest ih =>
    intro i s iv lv w3 hl hgs hv
    have hn := hv.2.2.1.2.2.1
    have h21 := hv.2.2.1.2.2.2.2.2.2
    have hl : i + (rest.length + 1) = gs.length := hl
    have hg : gs[i]? = some g := (hgs 0).symm
    rw [sg308_140, h21, if_neg (nI_ge (by omega) (by omega))]
    have hT := m_oTimes X d (im := im) (lw := lw) (tl := tl) hg v1 g.2.1 0 s iv lv (by omega) hv
    unfold oAll
    cases hr : oTimes g g.2.1 s with
    | none => rw [hr] at hT; exact hT
    | some s' =>
      rw [hr] at hT
      obtain ⟨iv', lv', h1, h2, h3, h4⟩ := hT
      rw [h1]
      exact oaM.tr (ih (i + 1) s' iv' lv' _ (by omega) (fun j => by have := hgs (j + 1); rw [show i + 1 + j = i + (j + 1) by omega]; exact this) h2) h3 h4 (sam_times g.2.1 s s' hv.2.1 hr).1
