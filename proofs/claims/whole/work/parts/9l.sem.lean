/-! both languages: what a code reckons -/
def sgm (cd : Nat → Nat × Nat) (b : Nat) (c : Cd) : Prop := ∀ k x, c[k]? = some x → cd (b + k) = x
theorem sgm_app {cd : Nat → Nat × Nat} {b : Nat} {a c : Cd} (h : sgm cd b (a ++ c)) : sgm cd b a ∧ sgm cd (b + a.length) c := by
  refine ⟨fun k x hx => h k x ?_, fun k x hx => ?_⟩
  · rw [List.getElem?_append_left]
    · exact hx
    · exact (List.getElem?_eq_some_iff.mp hx).1
  · have := h (a.length + k) x (by rw [List.getElem?_append_right (by omega)]; rw [show a.length + k - a.length = k by omega]; exact hx)
    rw [← Nat.add_assoc] at this
    exact this
theorem sgm_cons {cd : Nat → Nat × Nat} {b : Nat} {x : Nat × Nat} {c : Cd} (h : sgm cd b (x :: c)) : cd b = x ∧ sgm cd (b + 1) c := by
  have := sgm_app (a := [x]) (c := c) h
  exact ⟨this.1 0 x rfl, this.2⟩
theorem ev_mono (cd : Nat → Nat × Nat) (sz : Nat) (w : Nat → Int32) (nw : Nat) : ∀ (n i : Nat) (st : List Int64) (r : Int64), ev cd sz w nw n i st = some r → ev cd sz w nw (n + 1) i st = some r := by
  intro n
  induction n with
  | zero => intro i st r h; cases h
  | succ n ih =>
    intro i st r h
    unfold ev at h ⊢
    by_cases h0 : i < sz
    · rw [if_pos h0] at h ⊢
      by_cases h1 : (cd i).1 = 0
      · rw [if_pos h1] at h ⊢; exact h
      rw [if_neg h1] at h ⊢
      by_cases h2 : (cd i).1 = 1
      · rw [if_pos h2] at h ⊢
        by_cases h3 : st.length < 64
        · rw [if_pos h3] at h ⊢; exact ih _ _ _ h
        · rw [if_neg h3] at h; cases h
      rw [if_neg h2] at h ⊢
      by_cases h3 : (cd i).1 = 2
      · rw [if_pos h3] at h ⊢
        by_cases h4 : (cd i).2 < nw
        · rw [if_pos h4] at h ⊢
          by_cases h5 : st.length < 64
          · rw [if_pos h5] at h ⊢; exact ih _ _ _ h
          · rw [if_neg h5] at h; cases h
        · rw [if_neg h4] at h; cases h
      rw [if_neg h3] at h ⊢
      by_cases h4 : (cd i).1 = 11
      · rw [if_pos h4] at h ⊢
        cases st with
        | nil => cases h
        | cons y q => exact ih _ _ _ h
      rw [if_neg h4] at h ⊢
      by_cases h5 : (cd i).1 = 12
      · rw [if_pos h5] at h ⊢
        cases st with
        | nil => cases h
        | cons y q =>
          simp only at h ⊢
          by_cases hy : y = lN 0
          · rw [if_pos hy] at h ⊢; exact ih _ _ _ h
          · rw [if_neg hy] at h ⊢; exact ih _ _ _ h
      rw [if_neg h5] at h ⊢
      by_cases h6 : (cd i).1 = 13
      · rw [if_pos h6] at h ⊢
        cases st with
        | nil => cases h
        | cons y q =>
          simp only at h ⊢
          by_cases hy : y = lN 0
          · rw [if_pos hy] at h ⊢; exact ih _ _ _ h
          · rw [if_neg hy] at h ⊢; exact ih _ _ _ h
      rw [if_neg h6] at h ⊢
      cases hj : jst (cd i).1 st with
      | none => rw [hj] at h; cases h
      | some q => rw [hj] at h; exact ih _ _ _ h
    · rw [if_neg h0] at h; cases h
theorem ev_up (cd : Nat → Nat × Nat) (sz : Nat) (w : Nat → Int32) (nw n i : Nat) (st : List Int64) (r : Int64) (h : ev cd sz w nw n i st = some r) : ∀ m, ev cd sz w nw (n + m) i st = some r := by
  intro m
  induction m with
  | zero => exact h
  | succ m ih => exact ev_mono cd sz w nw (n + m) i st r ih
def DC (nw : Nat) (c : Cd) (b L : Nat) (f : Dn) : Prop := ∀ (cd : Nat → Nat × Nat) (sz : Nat) (w : Nat → Int32), sgm cd b c → b + c.length ≤ sz → ∀ st : List Int64, st.length + L ≤ 64 → (∀ v, f w = some v → ∃ k, k ≤ c.length ∧ ∀ n, ev cd sz w nw (n + k) b st = ev cd sz w nw n (b + c.length) (v :: st)) ∧ (f w = none → ∀ n, ev cd sz w nw n b st = none)
abbrev Wv : Type := (Nat → Int32) → Nat → Nat → Int64
def DM (W : Wv) (c : Cd) (b L : Nat) (f : Dn) : Prop := ∀ (cd : Nat → Nat × Nat) (last : Nat) (w : Nat → Int32), sgm cd b c → b + c.length ≤ last → ∀ st : List Int64, st.length + L ≤ 400 → (∀ v, f w = some v → ∃ k, ∀ n, evm cd (W w) last (n + k) b st = evm cd (W w) last n (b + c.length) (v :: st)) ∧ (f w = none → ∃ n, evm cd (W w) last n b st = some none)
/-- a run that goes on from another place -/
theorem ev_via {cd : Nat → Nat × Nat} {sz : Nat} {w : Nat → Int32} {nw b j k : Nat} {st st' : List Int64} (h : ∀ n, ev cd sz w nw (n + k) b st = ev cd sz w nw n j st') (h2 : ∀ n, ev cd sz w nw n j st' = none) (n : Nat) : ev cd sz w nw n b st = none := by
  cases e : ev cd sz w nw n b st with
  | none => rfl
  | some r =>
    have := ev_up cd sz w nw n b st r e k
    rw [h n, h2 n] at this
    cases this
theorem nq {a b : Nat} (h : Nat.beq a b = false) : ¬ a = b := fun e => by rw [e] at h; exact absurd (Nat.beq_refl b) (by rw [h]; decide)
theorem DC_num (nw v b : Nat) : DC nw [(1, v)] b 1 (fun _ => some (nI v).toInt64) := by
  intro cd sz w hs hz st hst
  have e := (sgm_cons hs).1
  simp only [List.length_singleton] at hz
  refine ⟨fun u hu => ⟨1, Nat.le_refl _, fun n => ?_⟩, fun h => by cases h⟩
  injection hu with hu
  subst hu
  conv => lhs; unfold ev
  rw [if_pos (by omega), e, if_neg (nq rfl), if_pos rfl, if_pos (by omega)]
  rfl
theorem DC_wrd {nw k : Nat} (hk : k < nw) (b : Nat) : DC nw [(2, k)] b 1 (fun w => some (w k).toInt64) := by
  intro cd sz w hs hz st hst
  have e := (sgm_cons hs).1
  simp only [List.length_singleton] at hz
  refine ⟨fun u hu => ⟨1, Nat.le_refl _, fun n => ?_⟩, fun h => by cases h⟩
  injection hu with hu
  subst hu
  conv => lhs; unfold ev
  rw [if_pos (by omega), e, if_neg (nq rfl), if_neg (nq rfl), if_pos rfl, if_pos hk, if_pos (by omega)]
  rfl
theorem ev_op {cd : Nat → Nat × Nat} {sz : Nat} {w : Nat → Int32} {nw p o n : Nat} (hp : p < sz) (e : cd p = (o, 0)) (h3 : 3 ≤ o) (h10 : o ≤ 10) (x y : Int64) (st : List Int64) : ev cd sz w nw (n + 1) p (y :: x :: st) = (match joi o x y with
    | some z => ev cd sz w nw n (p + 1) (z :: st)
    | none => none) := by
  conv => lhs; unfold ev
  rw [if_pos hp, e]
  rw [if_neg (show ¬ o = 0 by omega), if_neg (show ¬ o = 1 by omega), if_neg (show ¬ o = 2 by omega), if_neg (show ¬ o = 11 by omega), if_neg (show ¬ o = 12 by omega), if_neg (show ¬ o = 13 by omega)]
  rw [show jst ((o, 0) : Nat × Nat).1 (y :: x :: st) = (joi o x y).map (fun z => z :: st) from rfl]
  cases joi o x y <;> rfl
theorem DC_bin {nw o L1 L2 : Nat} {ca cb : Cd} {f g : Dn} (h1 : ∀ b, DC nw ca b L1 f) (h2 : ∀ b, DC nw cb b L2 g) (hL : 1 ≤ L1) (h3 : 3 ≤ o) (h10 : o ≤ 10) (b : Nat) : DC nw (ca ++ (cb ++ [(o, 0)])) b (L1 + L2) (dBin o f g) := by
  intro cd sz w hs hz st hst
  obtain ⟨s1, s2⟩ := sgm_app hs
  obtain ⟨s2, s3⟩ := sgm_app s2
  have e := (sgm_cons s3).1
  simp only [List.length_append, List.length_singleton] at hz ⊢
  obtain ⟨a1, a2⟩ := h1 b cd sz w s1 (by omega) st (by omega)
  unfold dBin
  cases hf : f w with
  | none => exact ⟨fun v hv => (by cases hv), fun _ => a2 hf⟩
  | some x =>
    obtain ⟨k1, q1, r1⟩ := a1 x hf
    obtain ⟨b1, b2⟩ := h2 (b + ca.length) cd sz w s2 (by omega) (x :: st) (by simp only [List.length_cons]; omega)
    cases hg : g w with
    | none => exact ⟨fun v hv => by simp at hv, fun _ => ev_via r1 (b2 hg)⟩
    | some y =>
      obtain ⟨k2, q2, r2⟩ := b1 y hg
      have r : ∀ n, ev cd sz w nw (n + (k2 + k1)) b st = ev cd sz w nw n (b + ca.length + cb.length) (y :: x :: st) := fun n => by rw [← Nat.add_assoc, r1, r2]
      refine ⟨fun v hv => ⟨1 + (k2 + k1), by omega, fun n => ?_⟩, fun hn => ?_⟩
      · simp only at hv
        rw [← Nat.add_assoc, r, ev_op (by omega) e h3 h10, hv]
        rw [show b + ca.length + cb.length + 1 = b + (ca.length + (cb.length + 1)) by omega]
      · simp only at hn
        refine ev_via r (fun n => ?_)
        cases n with
        | zero => rfl
        | succ n => rw [ev_op (by omega) e h3 h10, hn]
theorem DC_nts {nw L m : Nat} {c : Cd} {f : Dn} {b : Nat} (h : DC nw c b L f) : DC nw (c ++ (if m % 2 = 1 then [(11, 0)] else [])) b L (dNts m f) := by
  by_cases hm : m % 2 = 1
  · rw [if_pos hm]
    intro cd sz w hs hz st hst
    obtain ⟨s1, s2⟩ := sgm_app hs
    have e := (sgm_cons s2).1
    simp only [List.length_append, List.length_singleton] at hz ⊢
    obtain ⟨a1, a2⟩ := h cd sz w s1 (by omega) st (by omega)
    unfold dNts
    cases hf : f w with
    | none => exact ⟨fun v hv => (by cases hv), fun _ => a2 hf⟩
    | some x =>
      obtain ⟨k1, q1, r1⟩ := a1 x hf
      refine ⟨fun v hv => ⟨1 + k1, by omega, fun n => ?_⟩, fun hn => by cases hn⟩
      injection hv with hv
      rw [if_pos hm] at hv
      subst hv
      rw [← Nat.add_assoc, r1]
      conv => lhs; unfold ev
      rw [if_pos (by omega), e, if_neg (by decide), if_neg (by decide), if_neg (by decide), if_pos rfl]
      rfl
  · rw [if_neg hm, List.append_nil]
    intro cd sz w hs hz st hst
    obtain ⟨a1, a2⟩ := h cd sz w hs hz st hst
    unfold dNts
    cases hf : f w with
    | none => exact ⟨fun v hv => (by cases hv), fun _ => a2 hf⟩
    | some x => exact ⟨fun v hv => by injection hv with hv; rw [if_neg hm] at hv; subst hv; exact a1 x hf, fun hn => by cases hn⟩
theorem DC_con {nw L1 L2 : Nat} {ca cb : Nat → Cd} {f g : Dn} (h1 : ∀ b, DC nw (ca b) b L1 f) (h2 : ∀ b, DC nw (cb b) b L2 g) (b : Nat) : DC nw (jmp 13 ca cb b) b (L1 + L2) (dCon f g) := by
  intro cd sz w hs hz st hst
  unfold jmp at hs hz ⊢
  generalize cd2 : cb (b + (ca b).length + 1) = c2 at hs hz ⊢
  have h2 := h2 (b + (ca b).length + 1)
  rw [cd2] at h2
  obtain ⟨s1, s2⟩ := sgm_app hs
  obtain ⟨e, s3⟩ := sgm_cons s2
  simp only [List.length_append, List.length_cons] at hz ⊢
  obtain ⟨a1, a2⟩ := h1 b cd sz w s1 (by omega) st (by omega)
  unfold dCon
  cases hf : f w with
  | none => exact ⟨fun v hv => (by cases hv), fun _ => a2 hf⟩
  | some x =>
    obtain ⟨k1, q1, r1⟩ := a1 x hf
    obtain ⟨b1, b2⟩ := h2 cd sz w s3 (by omega) st (by omega)
    have st1 : ∀ n, ev cd sz w nw (n + 1) (b + (ca b).length) (x :: st) = if x = lN 0 then ev cd sz w nw n (b + (ca b).length + 1 + c2.length) (x :: st) else ev cd sz w nw n (b + (ca b).length + 1) st := by
      intro n
      conv => lhs; unfold ev
      rw [if_pos (by omega), e, if_neg (nq rfl), if_neg (nq rfl), if_neg (nq rfl), if_neg (nq rfl), if_neg (nq rfl), if_pos rfl]
    simp only
    by_cases hx : x = lN 0
    · rw [if_pos hx]
      refine ⟨fun v hv => ⟨1 + k1, by omega, fun n => ?_⟩, fun hn => by cases hn⟩
      injection hv with hv
      rw [← Nat.add_assoc, r1, st1, if_pos hx, hv, show b + (ca b).length + 1 + c2.length = b + ((ca b).length + (c2.length + 1)) by omega]
    · rw [if_neg hx]
      refine ⟨fun v hv => ?_, fun hn => ?_⟩
      · obtain ⟨k2, q2, r2⟩ := b1 v hv
        refine ⟨k2 + 1 + k1, by omega, fun n => ?_⟩
        rw [← Nat.add_assoc, ← Nat.add_assoc, r1, st1, if_neg hx, r2, show b + (ca b).length + 1 + c2.length = b + ((ca b).length + (c2.length + 1)) by omega]
      · refine ev_via r1 (fun n => ?_)
        cases n with
        | zero => rfl
        | succ n => rw [st1, if_neg hx]; exact b2 hn n
theorem DC_dis {nw L1 L2 : Nat} {ca cb : Nat → Cd} {f g : Dn} (h1 : ∀ b, DC nw (ca b) b L1 f) (h2 : ∀ b, DC nw (cb b) b L2 g) (b : Nat) : DC nw (jmp 12 ca cb b) b (L1 + L2) (dDis f g) := by
  intro cd sz w hs hz st hst
  unfold jmp at hs hz ⊢
  generalize cd2 : cb (b + (ca b).length + 1) = c2 at hs hz ⊢
  have h2 := h2 (b + (ca b).length + 1)
  rw [cd2] at h2
  obtain ⟨s1, s2⟩ := sgm_app hs
  obtain ⟨e, s3⟩ := sgm_cons s2
  simp only [List.length_append, List.length_cons] at hz ⊢
  obtain ⟨a1, a2⟩ := h1 b cd sz w s1 (by omega) st (by omega)
  unfold dDis
  cases hf : f w with
  | none => exact ⟨fun v hv => (by cases hv), fun _ => a2 hf⟩
  | some x =>
    obtain ⟨k1, q1, r1⟩ := a1 x hf
    obtain ⟨b1, b2⟩ := h2 cd sz w s3 (by omega) st (by omega)
    have st1 : ∀ n, ev cd sz w nw (n + 1) (b + (ca b).length) (x :: st) = if x = lN 0 then ev cd sz w nw n (b + (ca b).length + 1) st else ev cd sz w nw n (b + (ca b).length + 1 + c2.length) (x :: st) := by
      intro n
      conv => lhs; unfold ev
      rw [if_pos (by omega), e, if_neg (nq rfl), if_neg (nq rfl), if_neg (nq rfl), if_neg (nq rfl), if_pos rfl]
    simp only
    by_cases hx : x = lN 0
    · rw [if_pos hx]
      refine ⟨fun v hv => ?_, fun hn => ?_⟩
      · obtain ⟨k2, q2, r2⟩ := b1 v hv
        refine ⟨k2 + 1 + k1, by omega, fun n => ?_⟩
        rw [← Nat.add_assoc, ← Nat.add_assoc, r1, st1, if_pos hx, r2, show b + (ca b).length + 1 + c2.length = b + ((ca b).length + (c2.length + 1)) by omega]
      · refine ev_via r1 (fun n => ?_)
        cases n with
        | zero => rfl
        | succ n => rw [st1, if_pos hx]; exact b2 hn n
    · rw [if_neg hx]
      refine ⟨fun v hv => ⟨1 + k1, by omega, fun n => ?_⟩, fun hn => by cases hn⟩
      injection hv with hv
      rw [← Nat.add_assoc, r1, st1, if_neg hx, hv, show b + (ca b).length + 1 + c2.length = b + ((ca b).length + (c2.length + 1)) by omega]
theorem evm_upn (cd : Nat → Nat × Nat) (wv : Nat → Nat → Int64) (last n k : Nat) (st : List Int64) (r : Option Int64) (h : evm cd wv last n k st = some r) : ∀ m, evm cd wv last (n + m) k st = some r := by
  intro m
  induction m with
  | zero => exact h
  | succ m ih => exact evm_up cd wv last (n + m) k st r ih
theorem DM_leaf {W : Wv} {x : Nat × Nat} {f : Dn} (b : Nat) (hx : x.1 < 20) (hf : ∀ w, f w = some (if x.1 = 0 then (nI x.2).toInt64 else W w x.1 x.2)) : DM W [x] b 1 f := by
  intro cd last w hs hz st hst
  have e := (sgm_cons hs).1
  simp only [List.length_singleton] at hz
  refine ⟨fun u hu => ⟨1, fun n => ?_⟩, fun h => by rw [hf] at h; cases h⟩
  rw [hf] at hu
  injection hu with hu
  rw [evm_s, if_neg (by omega), e, if_pos hx, if_pos (by omega), hu]
  rfl
theorem evm_op {cd : Nat → Nat × Nat} {wv : Nat → Nat → Int64} {last p o n : Nat} (hp : p < last) (e : cd p = (o + 17, 0)) (h3 : 3 ≤ o) (h10 : o ≤ 10) (x y : Int64) (st : List Int64) : evm cd wv last (n + 1) p (y :: x :: st) = (match joi o x y with
    | some z => evm cd wv last n (p + 1) (z :: st)
    | none => some none) := by
  rw [evm_s, if_neg (by omega), e, if_neg (show ¬ o + 17 < 20 by omega), if_pos (show o + 17 < 28 by omega)]
  show evm2 ((o + 17 - 17 : Nat) : Int) (y :: x :: st) _ = _
  rw [show o + 17 - 17 = o by omega]
  rfl
theorem DM_bin {W : Wv} {o L1 L2 : Nat} {ca cb : Cd} {f g : Dn} (h1 : ∀ b, DM W ca b L1 f) (h2 : ∀ b, DM W cb b L2 g) (hL : 1 ≤ L1) (h3 : 3 ≤ o) (h10 : o ≤ 10) (b : Nat) : DM W (ca ++ (cb ++ [(o + 17, 0)])) b (L1 + L2) (dBin o f g) := by
  intro cd last w hs hz st hst
  obtain ⟨s1, s2⟩ := sgm_app hs
  obtain ⟨s2, s3⟩ := sgm_app s2
  have e := (sgm_cons s3).1
  simp only [List.length_append, List.length_singleton] at hz ⊢
  obtain ⟨a1, a2⟩ := h1 b cd last w s1 (by omega) st (by omega)
  unfold dBin
  cases hf : f w with
  | none => exact ⟨fun v hv => (by cases hv), fun _ => a2 hf⟩
  | some x =>
    obtain ⟨k1, r1⟩ := a1 x hf
    obtain ⟨b1, b2⟩ := h2 (b + ca.length) cd last w s2 (by omega) (x :: st) (by simp only [List.length_cons]; omega)
    cases hg : g w with
    | none =>
      obtain ⟨n, hn⟩ := b2 hg
      exact ⟨fun v hv => (by simp at hv), fun _ => ⟨n + k1, by rw [r1]; exact hn⟩⟩
    | some y =>
      obtain ⟨k2, r2⟩ := b1 y hg
      have r : ∀ n, evm cd (W w) last (n + (k2 + k1)) b st = evm cd (W w) last n (b + ca.length + cb.length) (y :: x :: st) := fun n => by rw [← Nat.add_assoc, r1, r2]
      refine ⟨fun v hv => ⟨1 + (k2 + k1), fun n => ?_⟩, fun hn => ⟨1 + (k2 + k1), ?_⟩⟩
      · simp only at hv
        rw [← Nat.add_assoc, r, evm_op (by omega) e h3 h10, hv]
        rw [show b + ca.length + cb.length + 1 = b + (ca.length + (cb.length + 1)) by omega]
      · simp only at hn
        have q := evm_op (cd := cd) (wv := W w) (last := last) (n := 0) (p := b + ca.length + cb.length) (by omega) e h3 h10 x y st
        rw [hn] at q
        rw [r]
        exact q
theorem DM_not1 {W : Wv} {L : Nat} {c : Cd} {f : Dn} {b : Nat} (h : DM W c b L f) : DM W (c ++ [(28, 0)]) b L (fun w => match f w with
    | none => none
    | some x => some (lN 1 - x)) := by
  intro cd last w hs hz st hst
  obtain ⟨s1, s2⟩ := sgm_app hs
  have e := (sgm_cons s2).1
  simp only [List.length_append, List.length_singleton] at hz ⊢
  obtain ⟨a1, a2⟩ := h cd last w s1 (by omega) st (by omega)
  cases hf : f w with
  | none => exact ⟨fun v hv => (by cases hv), fun _ => a2 hf⟩
  | some x =>
    obtain ⟨k1, r1⟩ := a1 x hf
    refine ⟨fun v hv => ⟨1 + k1, fun n => ?_⟩, fun hn => (by cases hn)⟩
    injection hv with hv
    subst hv
    rw [← Nat.add_assoc, r1, evm_s, if_neg (by omega), e, if_neg (by decide), if_neg (by decide), if_pos rfl]
    rfl
theorem nn64 (x : Int64) : lN 1 - (lN 1 - x) = x := by
  rw [Int64.sub_eq_add_neg, Int64.neg_sub, Int64.sub_eq_add_neg, Int64.add_comm x, ← Int64.add_assoc]
  rw [show lN 1 + -lN 1 = 0 by decide, Int64.zero_add]
theorem DM_eq {W : Wv} {c : Cd} {b L : Nat} {f g : Dn} (h : DM W c b L f) (e : ∀ w, f w = g w) : DM W c b L g := by
  have : f = g := funext e
  rw [← this]; exact h
theorem DM_nts {W : Wv} {L b : Nat} {c : Cd} {f : Dn} (h : DM W c b L f) : ∀ m, DM W (c ++ List.replicate m (28, 0)) b L (dNts m f) := by
  intro m
  induction m with
  | zero =>
    rw [List.replicate_zero, List.append_nil]
    exact DM_eq h (fun w => by unfold dNts; cases f w <;> simp)
  | succ m ih =>
    rw [List.replicate_succ', ← List.append_assoc]
    refine DM_eq (DM_not1 ih) (fun w => ?_)
    unfold dNts
    cases f w with
    | none => rfl
    | some x =>
      show some (lN 1 - if m % 2 = 1 then lN 1 - x else x) = some (if (m + 1) % 2 = 1 then lN 1 - x else x)
      by_cases hm : m % 2 = 1
      · rw [if_pos hm, if_neg (by omega), nn64]
      · rw [if_neg hm, if_pos (by omega)]
/-- the jump: taken where the value is j -/
theorem evm_jmp {cd : Nat → Nat × Nat} {wv : Nat → Nat → Int64} {last p o t n : Nat} (hp : p < last) (e : cd p = (o, t)) (ho : o = 29 ∨ o = 30) (y : Int64) (st : List Int64) : evm cd wv last (n + 1) p (y :: st) = if y = (if o = 29 then lN 0 else lN 1) then evm cd wv last n t (y :: st) else evm cd wv last n (p + 1) st := by
  rw [evm_s, if_neg (by omega), e, if_neg (show ¬ o < 20 by omega), if_neg (show ¬ o < 28 by omega), if_neg (show ¬ o = 28 by omega)]
  rfl
theorem DM_jmp {W : Wv} {L1 L2 o : Nat} {ca cb : Nat → Cd} {f g h : Dn} (ho : o = 29 ∨ o = 30) (h1 : ∀ b, DM W (ca b) b L1 f) (h2 : ∀ b, DM W (cb b) b L2 g) (hh : ∀ w, h w = match f w with
    | none => none
    | some x => if x = (if o = 29 then lN 0 else lN 1) then some x else g w) (b : Nat) : DM W (jmp o ca cb b) b (L1 + L2) h := by
  intro cd last w hs hz st hst
  unfold jmp at hs hz ⊢
  generalize cd2 : cb (b + (ca b).length + 1) = c2 at hs hz ⊢
  have h2 := h2 (b + (ca b).length + 1)
  rw [cd2] at h2
  obtain ⟨s1, s2⟩ := sgm_app hs
  obtain ⟨e, s3⟩ := sgm_cons s2
  simp only [List.length_append, List.length_cons] at hz ⊢
  obtain ⟨a1, a2⟩ := h1 b cd last w s1 (by omega) st (by omega)
  rw [hh w]
  cases hf : f w with
  | none => exact ⟨fun v hv => (by cases hv), fun _ => a2 hf⟩
  | some x =>
    obtain ⟨k1, r1⟩ := a1 x hf
    obtain ⟨b1, b2⟩ := h2 cd last w s3 (by omega) st (by omega)
    have st1 := fun n => evm_jmp (cd := cd) (wv := W w) (last := last) (n := n) (p := b + (ca b).length) (by omega) e ho x st
    simp only
    by_cases hx : x = (if o = 29 then lN 0 else lN 1)
    · rw [if_pos hx]
      refine ⟨fun v hv => ⟨1 + k1, fun n => ?_⟩, fun hn => (by cases hn)⟩
      injection hv with hv
      rw [← Nat.add_assoc, r1, st1, if_pos hx, hv, show b + (ca b).length + 1 + c2.length = b + ((ca b).length + (c2.length + 1)) by omega]
    · rw [if_neg hx]
      refine ⟨fun v hv => ?_, fun hn => ?_⟩
      · obtain ⟨k2, r2⟩ := b1 v hv
        refine ⟨k2 + 1 + k1, fun n => ?_⟩
        rw [← Nat.add_assoc, ← Nat.add_assoc, r1, st1, if_neg hx, r2, show b + (ca b).length + 1 + c2.length = b + ((ca b).length + (c2.length + 1)) by omega]
      · obtain ⟨n, q⟩ := b2 hn
        exact ⟨n + 1 + k1, by rw [r1, st1, if_neg hx]; exact q⟩
/-! what reading gives is sound -/
def nwF (q : Bool) : Nat := if q = true then 23 else 10
def wvOK (q : Bool) (W : Wv) : Prop := ∀ k, k < nwF q → ∀ w, W w (mwF q k).1 (mwF q k).2 = (w k).toInt64
def okE (q : Bool) (W : Wv) (L : Nat) (e : Ex) : Prop := (∀ b, DC (nwF q) e.1 b L e.2.2) ∧ (∀ b, DM W e.2.1 b L e.2.2) ∧ 1 ≤ L ∧ (∀ w v, e.2.2 w = some v → v.toInt32.toInt64 = v) ∧ (∀ x, x ∈ e.1 → x.1 < 16 ∧ x.2 ≤ 1000) ∧ (∀ x, x ∈ e.2.1 → x.1 ≤ 30 ∧ x.2 ≤ 1000 ∧ (x.1 < 20 → x.1 ≤ 10)) ∧ e.1 ≠ [] ∧ e.2.1 ≠ []
def okTe (q : Bool) (W : Wv) (L : Nat) (t : Te) : Prop := (∀ b, DC (nwF q) (t.1 b) b L t.2.2) ∧ (∀ b, DM W (t.2.1 b) b L t.2.2) ∧ 1 ≤ L ∧ (∀ w v, t.2.2 w = some v → v = lN 0 ∨ v = lN 1) ∧ (∀ b x, x ∈ t.1 b → x.1 < 16 ∧ x.2 ≤ 1000 + b + (t.1 b).length) ∧ (∀ b x, x ∈ t.2.1 b → x.1 ≤ 30 ∧ x.2 ≤ 1000 + b + (t.2.1 b).length ∧ (x.1 < 20 → x.1 ≤ 10)) ∧ (∀ b, t.1 b ≠ []) ∧ ∀ b, t.2.1 b ≠ []
theorem cap9_fit {z v : Int64} (h : cap9 z = some v) : v.toInt32.toInt64 = v := by
  unfold cap9 at h
  split at h
  · cases h
  · split at h
    · cases h
    · rename_i h1 h2
      injection h with h
      subst h
      apply Int64.toInt_inj.mp
      rw [fb_lt64] at h1 h2
      rw [Int32.toInt_toInt64, Int64.toInt_toInt32]
      rw [show (lN 18446744072709551616).toInt = -1000000000 by decide] at h1
      rw [show (lN 1000000000).toInt = 1000000000 by decide] at h2
      rw [Int.bmod_eq_of_le] <;> omega
theorem joi_fit {o : Nat} {x y v : Int64} (h : joi o x y = some v) : v.toInt32.toInt64 = v := by
  unfold joi at h
  repeat' split at h
  all_goals first
    | exact cap9_fit h
    | cases h
theorem joi_bool {o : Nat} (ho : 8 ≤ o) {x y v : Int64} (h : joi o x y = some v) : v = lN 0 ∨ v = lN 1 := by
  unfold joi at h
  rw [if_neg (by omega), if_neg (by omega), if_neg (by omega), if_neg (by omega), if_neg (by omega)] at h
  have c1 : cap9 (lN 1) = some (lN 1) := by decide
  have c0 : cap9 (lN 0) = some (lN 0) := by decide
  repeat' split at h
  all_goals first
    | (rw [c1] at h; injection h with h; exact Or.inr h.symm)
    | (rw [c0] at h; injection h with h; exact Or.inl h.symm)
    | cases h
theorem i32_fit (x : Int32) : x.toInt64.toInt32.toInt64 = x.toInt64 := by rw [Int32.toInt32_toInt64]
theorem okE_num (q : Bool) (W : Wv) {v : Nat} (hv : v ≤ 1000) : okE q W 1 (eNum v) := by
  refine ⟨fun b => DC_num _ v b, fun b => DM_leaf (W := W) b (x := (0, v)) (show 0 < 20 by omega) (fun w => rfl), Nat.le_refl _, fun w u hu => ?_, fun x hx => ?_, fun x hx => ?_, (fun e => by cases e), (fun e => by cases e)⟩
  · injection hu with hu; rw [← hu]; exact i32_fit _
  · rw [List.mem_singleton.mp hx]; exact ⟨by show 1 < 16; omega, hv⟩
  · rw [List.mem_singleton.mp hx]; exact ⟨by show 0 ≤ 30; omega, hv, fun _ => by show 0 ≤ 10; omega⟩
theorem mwF_ok {q : Bool} : ∀ k, k < nwF q → 1 ≤ (mwF q k).1 ∧ (mwF q k).1 ≤ 10 ∧ (mwF q k).2 ≤ 1000 := by
  cases q <;> decide
theorem okE_wrd {q : Bool} {W : Wv} (hW : wvOK q W) {k : Nat} (hk : k < nwF q) : okE q W 1 (eWrd q k) := by
  obtain ⟨m1, m2, m3⟩ := mwF_ok k hk
  refine ⟨fun b => DC_wrd hk b, fun b => DM_leaf (W := W) b (x := mwF q k) (by omega) (fun w => ?_), Nat.le_refl _, fun w u hu => ?_, fun x hx => ?_, fun x hx => ?_, (fun e => by cases e), (fun e => by cases e)⟩
  · rw [if_neg (by omega), hW k hk w]; rfl
  · injection hu with hu; rw [← hu]; exact i32_fit _
  · rw [List.mem_singleton.mp hx]
    refine ⟨by show 2 < 16; omega, ?_⟩
    show k ≤ 1000
    have : nwF q ≤ 23 := by cases q <;> decide
    omega
  · rw [List.mem_singleton.mp hx]; exact ⟨by omega, m3, fun _ => m2⟩
theorem okE_bin {q : Bool} {W : Wv} {L1 L2 o : Nat} {a b : Ex} (ha : okE q W L1 a) (hb : okE q W L2 b) (h3 : 3 ≤ o) (h10 : o ≤ 10) : okE q W (L1 + L2) (eBin o a b) := by
  obtain ⟨a1, a2, a3, a4, a5, a6, a7, a8⟩ := ha
  obtain ⟨b1, b2, b3, b4, b5, b6, b7, b8⟩ := hb
  refine ⟨fun z => DC_bin a1 b1 a3 h3 h10 z, fun z => DM_bin a2 b2 a3 h3 h10 z, by omega, fun w v hv => ?_, fun x hx => ?_, fun x hx => ?_, fun e => a7 (List.append_eq_nil_iff.mp e).1, fun e => a8 (List.append_eq_nil_iff.mp e).1⟩
  · have hv : dBin o a.2.2 b.2.2 w = some v := hv
    unfold dBin at hv
    split at hv
    · cases hv
    · split at hv
      · cases hv
      · exact joi_fit hv
  · have hx : x ∈ a.1 ++ (b.1 ++ [(o, 0)]) := hx
    rcases List.mem_append.mp hx with h | h
    · exact a5 x h
    · rcases List.mem_append.mp h with h | h
      · exact b5 x h
      · rw [List.mem_singleton.mp h]; exact ⟨by show o < 16; omega, by show 0 ≤ 1000; omega⟩
  · have hx : x ∈ a.2.1 ++ (b.2.1 ++ [(o + 17, 0)]) := hx
    rcases List.mem_append.mp hx with h | h
    · exact a6 x h
    · rcases List.mem_append.mp h with h | h
      · exact b6 x h
      · rw [List.mem_singleton.mp h]; exact ⟨by show o + 17 ≤ 30; omega, by show 0 ≤ 1000; omega, fun z => by have z : o + 17 < 20 := z; omega⟩
theorem okT_cmp {q : Bool} {W : Wv} {L1 L2 o : Nat} {a b : Ex} (ha : okE q W L1 a) (hb : okE q W L2 b) (h3 : 8 ≤ o) (h10 : o ≤ 10) : okTe q W (L1 + L2) (tCmp o a b) := by
  obtain ⟨e1, e2, e3, e4, e5, e6, e7, e8⟩ := okE_bin ha hb (o := o) (by omega) h10
  refine ⟨fun z => e1 z, fun z => e2 z, e3, fun w v hv => ?_, fun z x hx => ⟨(e5 x hx).1, by have := (e5 x hx).2; omega⟩, fun z x hx => ⟨(e6 x hx).1, by have := (e6 x hx).2.1; omega, (e6 x hx).2.2⟩, fun z => e7, fun z => e8⟩
  have hv : dBin o a.2.2 b.2.2 w = some v := hv
  unfold dBin at hv
  split at hv
  · cases hv
  · split at hv
    · cases hv
    · exact joi_bool h3 hv
theorem okT_nts {q : Bool} {W : Wv} {L : Nat} {t : Te} (m : Nat) (h : okTe q W L t) : okTe q W L (tNts m t) := by
  obtain ⟨a1, a2, a3, a4, a5, a6, a7, a8⟩ := h
  refine ⟨fun z => DC_nts (a1 z), fun z => DM_nts (a2 z) m, a3, fun w v hv => ?_, fun z x hx => ?_, fun z x hx => ?_, fun z e => a7 z (List.append_eq_nil_iff.mp e).1, fun z e => a8 z (List.append_eq_nil_iff.mp e).1⟩
  · have hv : dNts m t.2.2 w = some v := hv
    unfold dNts at hv
    cases hf : t.2.2 w with
    | none => rw [hf] at hv; cases hv
    | some x =>
      rw [hf] at hv
      injection hv with hv
      subst hv
      rcases a4 w x hf with e | e <;> subst e <;> split <;> first | exact Or.inl rfl | exact Or.inr rfl | (refine Or.inr ?_; decide) | (refine Or.inl ?_; decide)
  · have hx : x ∈ t.1 z ++ (if m % 2 = 1 then [(11, 0)] else []) := hx
    show x.1 < 16 ∧ x.2 ≤ 1000 + z + (t.1 z ++ (if m % 2 = 1 then [(11, 0)] else [])).length
    rw [List.length_append]
    rcases List.mem_append.mp hx with h | h
    · have := a5 z x h; exact ⟨this.1, by omega⟩
    · split at h
      · rw [List.mem_singleton.mp h]; exact ⟨by decide, by show 0 ≤ _; omega⟩
      · cases h
  · have hx : x ∈ t.2.1 z ++ List.replicate m (28, 0) := hx
    show x.1 ≤ 30 ∧ x.2 ≤ 1000 + z + (t.2.1 z ++ List.replicate m (28, 0)).length ∧ _
    rw [List.length_append]
    rcases List.mem_append.mp hx with h | h
    · have := a6 z x h; exact ⟨this.1, by omega, this.2.2⟩
    · rw [(List.mem_replicate.mp h).2]; exact ⟨by decide, by show 0 ≤ _; omega, fun z => by have z : 28 < 20 := z; omega⟩
theorem jmp_mem {o z : Nat} {ca cb : Nat → Cd} {x : Nat × Nat} (h : x ∈ jmp o ca cb z) : x ∈ ca z ∨ x = (o, z + (jmp o ca cb z).length) ∨ x ∈ cb (z + (ca z).length + 1) := by
  unfold jmp at h ⊢
  rcases List.mem_append.mp h with h | h
  · exact Or.inl h
  · rcases List.mem_cons.mp h with h | h
    · refine Or.inr (Or.inl ?_)
      rw [h, List.length_append, List.length_cons]
      congr 1
      omega
    · exact Or.inr (Or.inr h)
theorem jmp_len (o z : Nat) (ca cb : Nat → Cd) : (jmp o ca cb z).length = (ca z).length + 1 + (cb (z + (ca z).length + 1)).length := by
  unfold jmp; rw [List.length_append, List.length_cons]; omega
theorem okT_jmp {q : Bool} {W : Wv} {L1 L2 : Nat} {a b : Te} (con : Bool) (ha : okTe q W L1 a) (hb : okTe q W L2 b) : okTe q W (L1 + L2) (if con = true then tCon a b else tDis a b) := by
  obtain ⟨a1, a2, a3, a4, a5, a6, a7, a8⟩ := ha
  obtain ⟨b1, b2, b3, b4, b5, b6, b7, b8⟩ := hb
  have R : ∀ (o : Nat) (ho : o < 16) (z : Nat) (x : Nat × Nat), x ∈ jmp o a.1 b.1 z → x.1 < 16 ∧ x.2 ≤ 1000 + z + (jmp o a.1 b.1 z).length := by
    intro o ho z x hx
    rcases jmp_mem hx with h | h | h
    · have := a5 z x h; rw [jmp_len]; exact ⟨this.1, by omega⟩
    · rw [h]; exact ⟨ho, by show z + (jmp o a.1 b.1 z).length ≤ _; omega⟩
    · have := b5 _ x h; rw [jmp_len]; exact ⟨this.1, by omega⟩
  have R2 : ∀ (o : Nat) (ho : o = 29 ∨ o = 30) (z : Nat) (x : Nat × Nat), x ∈ jmp o a.2.1 b.2.1 z → x.1 ≤ 30 ∧ x.2 ≤ 1000 + z + (jmp o a.2.1 b.2.1 z).length ∧ (x.1 < 20 → x.1 ≤ 10) := by
    intro o ho z x hx
    rcases jmp_mem hx with h | h | h
    · have := a6 z x h; rw [jmp_len]; exact ⟨this.1, by omega, this.2.2⟩
    · rw [h]; exact ⟨by show o ≤ 30; omega, by show z + (jmp o a.2.1 b.2.1 z).length ≤ _; omega, fun z => by have z : o < 20 := z; omega⟩
    · have := b6 _ x h; rw [jmp_len]; exact ⟨this.1, by omega, this.2.2⟩
  have N : ∀ (o z : Nat) (c d : Nat → Cd), jmp o c d z ≠ [] := fun o z c d e => by
    have := congrArg List.length e; rw [jmp_len] at this; simp at this
  cases con with
  | true =>
    rw [if_pos rfl]
    refine ⟨fun z => DC_con a1 b1 z, fun z => DM_jmp (Or.inl rfl) a2 b2 (fun w => ?_) z, by omega, fun w v hv => ?_, R 13 (by omega), R2 29 (Or.inl rfl), fun z => N _ _ _ _, fun z => N _ _ _ _⟩
    · show dCon a.2.2 b.2.2 w = _
      unfold dCon
      cases a.2.2 w <;> simp
    · have hv : dCon a.2.2 b.2.2 w = some v := hv
      unfold dCon at hv
      cases hf : a.2.2 w with
      | none => rw [hf] at hv; cases hv
      | some x =>
        rw [hf] at hv
        simp only at hv
        split at hv
        · injection hv with hv; rw [← hv]; exact a4 w x hf
        · exact b4 w v hv
  | false =>
    rw [if_neg (by decide)]
    refine ⟨fun z => DC_dis a1 b1 z, fun z => DM_jmp (Or.inr rfl) a2 b2 (fun w => ?_) z, by omega, fun w v hv => ?_, R 12 (by omega), R2 30 (Or.inr rfl), fun z => N _ _ _ _, fun z => N _ _ _ _⟩
    · show dDis a.2.2 b.2.2 w = _
      unfold dDis
      cases hf : a.2.2 w with
      | none => rfl
      | some x =>
        simp only
        rw [if_neg (show ¬ (30 : Nat) = 29 by decide)]
        rcases a4 w x hf with e | e <;> subst e
        · rw [if_pos rfl, if_neg (by decide)]
        · rw [if_neg (by decide), if_pos rfl]
    · have hv : dDis a.2.2 b.2.2 w = some v := hv
      unfold dDis at hv
      cases hf : a.2.2 w with
      | none => rw [hf] at hv; cases hv
      | some x =>
        rw [hf] at hv
        simp only at hv
        split at hv
        · exact b4 w v hv
        · injection hv with hv; rw [← hv]; exact a4 w x hf
