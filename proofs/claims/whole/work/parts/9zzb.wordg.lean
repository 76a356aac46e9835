/-! orders: the words of the reference, as it tells them -/
def wvG (q : Bool) : Wv := fun w o a => if q = true then (if o < 4 then w (o - 1) else if o < 6 then (if a < 6 then w ((if o = 4 then 3 else 9) + a) else -1) else (if a < 4 then w ((if o = 6 then 15 else 19) + a) else -1)).toInt64 else (w (o - 1)).toInt64
theorem wvG_k : ∀ k, k < 23 → ((mwO k).1 < 4 ∧ (mwO k).1 - 1 = k) ∨ (¬ (mwO k).1 < 4 ∧ (mwO k).1 < 6 ∧ (mwO k).2 < 6 ∧ (if (mwO k).1 = 4 then 3 else 9) + (mwO k).2 = k) ∨ (¬ (mwO k).1 < 4 ∧ ¬ (mwO k).1 < 6 ∧ (mwO k).2 < 4 ∧ (if (mwO k).1 = 6 then 15 else 19) + (mwO k).2 = k) := by decide
theorem wvG_ok (q : Bool) : wvOK q (wvG q) := by
  intro k hk w
  cases q with
  | true =>
    have hk : k < 23 := hk
    show (if (mwO k).1 < 4 then w ((mwO k).1 - 1) else if (mwO k).1 < 6 then (if (mwO k).2 < 6 then w ((if (mwO k).1 = 4 then 3 else 9) + (mwO k).2) else -1) else (if (mwO k).2 < 4 then w ((if (mwO k).1 = 6 then 15 else 19) + (mwO k).2) else -1)).toInt64 = _
    rcases wvG_k k hk with ⟨h1, h2⟩ | ⟨h1, h2, h3, h4⟩ | ⟨h1, h2, h3, h4⟩
    · rw [if_pos h1, h2]
    · rw [if_neg h1, if_pos h2, if_pos h3, h4]
    · rw [if_neg h1, if_neg h2, if_pos h3, h4]
  | false => rfl
def oE1g (q : Bool) (e : Ex) : Prop := ∃ L, okE q (wvG q) L e ∧ L ≤ 50
def oT1g (q : Bool) (t : Te) : Prop := ∃ L, okTe q (wvG q) L t ∧ L ≤ 50
def gOKg (q : Bool) (g : GC) : Prop := g.1 < 4 ∧ (1 ≤ g.2.1 ∧ g.2.1 ≤ 20) ∧ (∀ e, g.2.2.1 = some e → oE1g q e) ∧ (∀ e, g.2.2.2.1 = some e → oE1g q e) ∧ (∀ t, g.2.2.2.2 = some t → oT1g q t) ∧ (g.1 = 3 ↔ g.2.2.1 = none) ∧ (q = true → (g.2.2.2.1 = none ↔ g.2.2.1 = none)) ∧ (q = false → g.2.2.2.1 = none)
theorem GF_Eg {q : Bool} {nt : Nat} {f : Nat → Nat → Rd Ex} (h : GF nt (oE q (wvG q)) f) {c i : Nat} (hc : c ≤ 50) (hi : i ≤ nt) {x : Ex} {c' i' : Nat} (e : f c i = .inr (x, c', i')) : oE1g q x ∧ c' ≤ 50 ∧ i' ≤ nt := by
  have := h c i hc hi
  rw [e] at this
  obtain ⟨L, n, h1, h2, h3, h4, h5, h6⟩ := this
  have h2 : c' = c + L := h2
  have h3 : c' ≤ 50 := h3
  exact ⟨⟨L, h1.1, by omega⟩, h3, h6⟩
theorem GF_Tg {q : Bool} {nt : Nat} {f : Nat → Nat → Rd Te} (h : GF nt (oT q (wvG q)) f) {c i : Nat} (hc : c ≤ 50) (hi : i ≤ nt) {x : Te} {c' i' : Nat} (e : f c i = .inr (x, c', i')) : oT1g q x ∧ c' ≤ 50 ∧ i' ≤ nt := by
  have := h c i hc hi
  rw [e] at this
  obtain ⟨L, n, h1, h2, h3, h4, h5, h6⟩ := this
  have h2 : c' = c + L := h2
  have h3 : c' ≤ 50 := h3
  exact ⟨⟨L, h1.1, by omega⟩, h3, h6⟩
section gkg
variable {q : Bool} {tk : Nat → Nat} {nt : Nat}
theorem tk_ltg (he : tk nt = 9999) {i w : Nat} (hi : i ≤ nt) (h : tk i = w) (hw : w ≤ 4000) : i < nt := by
  rcases Nat.lt_or_ge i nt with z | z
  · exact z
  · rw [show i = nt by omega, he] at h; omega
theorem pIf_okg (he : tk nt = 9999) {c i : Nat} (hc : c ≤ 50) (hi : i ≤ nt) {t : Option Te} {c' i' : Nat} (e : pIf q tk c i = .inr (t, c', i')) : (∀ u, t = some u → oT1g q u) ∧ c' ≤ 50 ∧ i' ≤ nt := by
  unfold pIf at e
  by_cases h : tk i = 2011
  · rw [if_pos h] at e
    have hlt := tk_ltg he hi h (by omega)
    obtain ⟨x, c1, i1, g1, g2⟩ := thn_r e
    injection g2 with g2
    injection g2 with ha g2
    injection g2 with hb hd
    subst ha; subst hb; subst hd
    obtain ⟨o1, o2, o3⟩ := GF_Tg (GF_test he (wvG_ok q) 8) hc (by omega) g1
    exact ⟨fun u hu => by injection hu with hu; rw [← hu]; exact o1, o2, o3⟩
  · rw [if_neg h] at e
    injection e with e
    injection e with ha e
    injection e with hb hd
    subst ha; subst hb; subst hd
    exact ⟨fun u hu => (by cases hu), hc, hi⟩
theorem pTimes_okg (he : tk nt = 9999) {c i : Nat} (hc : c ≤ 50) (hi : i ≤ nt) {m c' i' : Nat} (e : pTimes tk c i = .inr (m, c', i')) : (1 ≤ m ∧ m ≤ 20) ∧ c' ≤ 50 ∧ i' ≤ nt := by
  unfold pTimes at e
  by_cases h : tk i = 2010
  · rw [if_pos h] at e
    have hlt := tk_ltg he hi h (by omega)
    cases hn : numT (tk (i + 1)) with
    | none => rw [hn] at e; cases e
    | some v =>
      rw [hn] at e
      simp only at e
      have := (numT_ok hn).2
      have hlt2 := tk_ltg he (show i + 1 ≤ nt by omega) rfl (by have := (numT_ok hn).1; omega)
      by_cases hv : 1 ≤ v ∧ v ≤ 20
      · rw [if_pos hv] at e
        injection e with e
        injection e with ha e
        injection e with hb hd
        subst ha; subst hb; subst hd
        exact ⟨hv, hc, by omega⟩
      · rw [if_neg hv] at e; cases e
  · rw [if_neg h] at e
    injection e with e
    injection e with ha e
    injection e with hb hd
    subst ha; subst hb; subst hd
    exact ⟨by omega, hc, hi⟩
theorem pLaw_okg {tk : Nat → Nat} (he : tk nt = 9999) {c i : Nat} (hc : c ≤ 50) (hi : i ≤ nt) {g : GC} {c' i' : Nat} (e : pLaw false tk c i = .inr (g, c', i')) : gOKg false g ∧ c' ≤ 50 ∧ i' ≤ nt := by
  unfold pLaw at e
  by_cases h : 2000 ≤ tk i ∧ tk i ≤ 2003
  · rw [if_pos h] at e
    have hlt := tk_ltg he hi rfl (show tk i ≤ 4000 by omega)
    by_cases h3 : tk i = 2003
    · rw [if_pos h3] at e
      obtain ⟨t, c1, i1, g1, g2⟩ := thn_r e
      injection g2 with g2
      injection g2 with ha g2
      injection g2 with hb hd
      subst ha; subst hb; subst hd
      obtain ⟨o1, o2, o3⟩ := pIf_okg he hc (by omega) g1
      exact ⟨⟨by show 3 < 4; omega, ⟨Nat.le_refl _, by show 1 ≤ 20; omega⟩, fun x hx => by (cases hx), fun x hx => by (cases hx), o1, ⟨fun _ => rfl, fun _ => rfl⟩, fun z => by (cases z), fun _ => rfl⟩, o2, o3⟩
    · rw [if_neg h3] at e
      obtain ⟨x, c1, i1, g1, g2⟩ := thn_r e
      obtain ⟨p1, p2, p3⟩ := GF_Eg (GF_sum he (wvG_ok false) 8) hc (by omega) g1
      obtain ⟨t, c2, i2, g3, g4⟩ := thn_r g2
      obtain ⟨o1, o2, o3⟩ := pIf_okg he p2 p3 g3
      injection g4 with g4
      injection g4 with ha g4
      injection g4 with hb hd
      subst ha; subst hb; subst hd
      exact ⟨⟨by show tk i - 2000 < 4; omega, ⟨Nat.le_refl _, by show 1 ≤ 20; omega⟩, fun y hy => by (injection hy with hy; rw [← hy]; exact p1), fun y hy => by (cases hy), o1, ⟨fun z => by have z : tk i - 2000 = 3 := z; omega, fun z => by (cases z)⟩, fun z => by (cases z), fun _ => rfl⟩, o2, o3⟩
  · rw [if_neg h] at e; cases e
theorem pOrd_okg {tk : Nat → Nat} (he : tk nt = 9999) {c i : Nat} (hc : c ≤ 50) (hi : i ≤ nt) {g : GC} {c' i' : Nat} (e : pOrd true tk c i = .inr (g, c', i')) : gOKg true g ∧ c' ≤ 50 ∧ i' ≤ nt := by
  unfold pOrd at e
  by_cases h : 2004 ≤ tk i ∧ tk i ≤ 2007
  · rw [if_pos h] at e
    have hlt := tk_ltg he hi rfl (show tk i ≤ 4000 by omega)
    by_cases h3 : tk i = 2007
    · rw [if_pos h3] at e
      obtain ⟨m, c1, i1, g1, g2⟩ := thn_r e
      obtain ⟨p1, p2, p3⟩ := pTimes_okg he hc (by omega) g1
      obtain ⟨t, c2, i2, g3, g4⟩ := thn_r g2
      obtain ⟨o1, o2, o3⟩ := pIf_okg he p2 p3 g3
      injection g4 with g4
      injection g4 with ha g4
      injection g4 with hb hd
      subst ha; subst hb; subst hd
      exact ⟨⟨by show 3 < 4; omega, p1, fun x hx => by (cases hx), fun x hx => by (cases hx), o1, ⟨fun _ => rfl, fun _ => rfl⟩, fun _ => ⟨fun _ => rfl, fun _ => rfl⟩, fun _ => rfl⟩, o2, o3⟩
    · rw [if_neg h3] at e
      obtain ⟨x, c1, i1, g1, g2⟩ := thn_r e
      obtain ⟨p1, p2, p3⟩ := GF_Eg (GF_sum he (wvG_ok true) 8) hc (by omega) g1
      by_cases hw : tk i1 = (if tk i = 2004 then 2008 else 2009)
      · rw [if_pos hw] at g2
        have hlt1 := tk_ltg he p3 hw (by split <;> omega)
        obtain ⟨x2, c2, i2, g3, g4⟩ := thn_r g2
        obtain ⟨r1, r2, r3⟩ := GF_Eg (GF_sum he (wvG_ok true) 8) p2 (by omega) g3
        obtain ⟨m, c3, i3, g5, g6⟩ := thn_r g4
        obtain ⟨s1, s2, s3⟩ := pTimes_okg he r2 r3 g5
        obtain ⟨t, c4, i4, g7, g8⟩ := thn_r g6
        obtain ⟨o1, o2, o3⟩ := pIf_okg he s2 s3 g7
        injection g8 with g8
        injection g8 with ha g8
        injection g8 with hb hd
        subst ha; subst hb; subst hd
        exact ⟨⟨by show tk i - 2004 < 4; omega, s1, fun y hy => by (injection hy with hy; rw [← hy]; exact p1), fun y hy => by (injection hy with hy; rw [← hy]; exact r1), o1, ⟨fun z => by have z : tk i - 2004 = 3 := z; omega, fun z => by (cases z)⟩, fun _ => ⟨fun z => by (cases z), fun z => by (cases z)⟩, fun z => by (cases z)⟩, o2, o3⟩
      · rw [if_neg hw] at g2; cases g2
  · rw [if_neg h] at e; cases e
theorem pText_okg (q : Bool) (he : tk nt = 9999) : ∀ (k : Nat) (gs : List GC) (c i : Nat) (gs' : List GC), c ≤ 50 → i ≤ nt → (∀ g, g ∈ gs → gOKg q g) → pText q tk k gs c i = .inr gs' → gs' ≠ [] ∧ ∀ g, g ∈ gs' → gOKg q g := by
  intro k
  induction k with
  | zero => intro gs c i gs' _ _ _ h; cases h
  | succ k ih =>
    intro gs c i gs' hc hi hg h
    unfold pText at h
    cases hp : pCl q tk c i with
    | inl e => rw [hp] at h; cases h
    | inr x =>
      rw [hp] at h
      simp only at h
      have hx : gOKg q x.1 ∧ x.2.1 ≤ 50 ∧ x.2.2 ≤ nt := by
        unfold pCl at hp
        cases q with
        | true => rw [if_pos rfl] at hp; exact pOrd_okg he hc hi (show pOrd true tk c i = .inr (x.1, x.2.1, x.2.2) from hp)
        | false => rw [if_neg (by decide)] at hp; exact pLaw_okg he hc hi (show pLaw false tk c i = .inr (x.1, x.2.1, x.2.2) from hp)
      have hg2 : ∀ g, g ∈ gs ++ [x.1] → gOKg q g := fun g hgm => by
        rcases List.mem_append.mp hgm with z | z
        · exact hg g z
        · rw [List.mem_singleton.mp z]; exact hx.1
      by_cases e9 : tk x.2.2 = 9999
      · rw [if_pos e9] at h
        injection h with h
        subst h
        exact ⟨by simp, hg2⟩
      · rw [if_neg e9] at h
        by_cases es : tk x.2.2 = 59
        · rw [if_pos es] at h
          exact ih (gs ++ [x.1]) x.2.1 (x.2.2 + 1) gs' hx.2.1 (by have := tk_ltg he hx.2.2 es (by omega); omega) hg2 h
        · rw [if_neg es] at h; cases h
end gkg
