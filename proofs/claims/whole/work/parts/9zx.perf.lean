/-! orders: tests, sums and acts of the class -/
theorem e42 (im lw : List (Option Nat)) (tl : List XC) : (SS im lw tl)[42]? = some (50, 23, []) := rfl
theorem o12 (im lw : List (Option Nat)) (tl : List XC) (k : Nat → Option XR) : objR (SS im lw tl) (some 12) 5 k = k 12 := by
  rw [objR_ok (show (SS im lw tl)[12]? = some (5, 4, [some 13, some 14, none, none]) from rfl) rfl]
theorem c_testH (X : XE) (d : Nat) {im lw : List (Option Nat)} {tl : List XC} {iv : Nat → Nat → Int32} (lv : Nat → Nat → Int64) {gs : List GC} (h : prgC (SS im lw tl) iv gs) {i : Nat} {g : GC} (hg : gs[i]? = some g) {w : Nat → Int32} (hw : ∀ k, k < 23 → iv 42 k = w k) : ∃ t f, call X xT (d + 3) 112 [.inr (.inr (some 17)), .inr (.inr (some 12)), .inl (nI i), .inr (.inr (some 42))] (SS im lw tl, iv, lv) = some (some (.inl (b2i (oHold g w))), (SS im lw tl, upd2 iv 18 1 t, upr lv 19 f)) := by
  obtain ⟨h1, h2, h3, h4, h5⟩ := h
  obtain ⟨q0, q1, q2, q3⟩ := ord_plc h4 h3 (rw := iv 14) h5 i g hg
  have hi : i < gs.length := (List.getElem?_eq_some_iff.mp hg).1
  have i400 : i < 12 := by obtain ⟨_, _, _, _, _, _, _, _, _, _, z, _⟩ := h2; omega
  have self : ∀ (t : Int32) (f : Nat → Int64), t = iv 18 1 → f = lv 19 → (SS im lw tl, iv, lv) = (SS im lw tl, upd2 iv 18 1 t, upr lv 19 f) := by
    intro t f e1 e2
    rw [e1, e2, upr_id]
    have : upd2 iv 18 1 (iv 18 1) = iv := by
      funext a k
      by_cases ha : a = 18
      · subst ha
        by_cases hk : k = 1
        · subst hk; rw [upd2_self]
        · rw [upd2_ne _ _ _ _ (by omega)]
      · rw [upd2_off _ _ _ _ ha]
    rw [this]
  rw [tr112, o12, c_part h2 hi (show 4 < 5 by decide), bI_some, sg112_6]
  have hcon := plc_congr q2 hw
  unfold oHold
  rw [← hcon]
  rcases q2 with ⟨e, q⟩ | ⟨p, p1, p2, p3, p4⟩
  · rw [if_pos e, q]
    exact ⟨_, _, by rw [← self _ _ rfl rfl]; rfl⟩
  · rw [p2, if_neg (nI_m1 (by omega))]
    obtain ⟨t, f, r1, r2⟩ := c_runs X d im lw tl iv lv h1 h3 (show 42 < 1000000 by decide) (e42 im lw tl) (by decide) (i := p) (by omega)
    rw [← p3] at r1 r2
    rw [r1, bI_some, sg112_25]
    cases hv : denT g.2.2.2.2 (iv 42) with
    | none =>
      rw [if_pos (by decide)]
      exact ⟨t, f, rfl⟩
    | some v =>
      have hf := r2 v hv
      rw [if_neg (show ¬ b2i (some v).isSome = 0 from n1z), tr40, bI_some, sg112_35, upr_self, hf]
      have hz : (v.toInt32 = 0) ↔ v = lN 0 := fit0 (p4 _ _ hv)
      by_cases z : v = lN 0
      · rw [if_pos (hz.mpr z)]
        refine ⟨t, f, ?_⟩
        simp only
        rw [decide_eq_false (by simpa using z)]; rfl
      · rw [if_neg (fun q => z (hz.mp q))]
        refine ⟨t, f, ?_⟩
        simp only
        rw [decide_eq_true z]; rfl
theorem c_sumT (X : XE) (d : Nat) {im lw : List (Option Nat)} {tl : List XC} {iv : Nat → Nat → Int32} (lv : Nat → Nat → Int64) {gs : List GC} (h : prgC (SS im lw tl) iv gs) {x : Int32} {f : Dn} (hf : plq (fun k => (cA gs).getD k (0, 0)) (cA gs).length 23 x f) {w : Nat → Int32} (hw : ∀ k, k < 23 → iv 42 k = w k) : ∃ t f', call X xT (d + 3) 119 [.inr (.inr (some 17)), .inr (.inr (some 12)), .inl x, .inr (.inr (some 42))] (SS im lw tl, iv, lv) = some (some (.inl (b2i (f w).isSome)), (SS im lw tl, upd2 iv 18 1 t, upr lv 19 f')) ∧ ∀ v, f w = some v → f' 0 = v := by
  obtain ⟨h1, h2, h3, h4, h5⟩ := h
  have hcon := plc_congr (Or.inr hf) hw
  obtain ⟨p, p1, p2, p3, p4⟩ := hf
  obtain ⟨t, f', r1, r2⟩ := c_runs X d im lw tl iv lv h1 h3 (show 42 < 1000000 by decide) (e42 im lw tl) (by decide) (i := p) (by omega)
  rw [← p3, hcon] at r1 r2
  refine ⟨t, f', ?_, r2⟩
  rw [tr119, p2, r1, bI_some, sg119_10, if_pos (is01_b2i _)]
def frQ (iv iv' : Nat → Nat → Int32) : Prop := fr [3, 18, 20, 30, 31, 32, 42] iv iv'
theorem c_perf (X : XE) (d : Nat) {im lw : List (Option Nat)} {tl : List XC} {iv : Nat → Nat → Int32} (lv : Nat → Nat → Int64) {A : St} (h : RelC A im lw tl iv) (ho : OKA A) {gs : List GC} (hp : prgC (SS im lw tl) iv gs) {i : Nat} {g : GC} (hg : gs[i]? = some g) {w : Nat → Int32} (hw : ∀ k, k < 23 → iv 42 k = w k) : ∃ iv' lv', call X xT (d + 13) 113 [.inr (.inr (some 0)), .inr (.inr (some 12)), .inl (nI i)] (SS im lw tl, iv, lv) = some (some (.inl (oAct g w A).1), (SS im lw tl, iv', lv')) ∧ RelC (oAct g w A).2 im lw tl iv' ∧ frQ iv iv' ∧ agL lv lv' ∧ iv' 42 1 = iv 42 1 ∧ (0 ≤ (oAct g w A).1 → iv' 42 2 = if g.1 = 0 then (oAct g w A).1 else iv 42 2) := by
  obtain ⟨q0, q1, q2, q3⟩ := ord_plc hp.2.2.2.1 hp.2.2.1 (rw := iv 14) hp.2.2.2.2 i g hg
  have hi : i < gs.length := (List.getElem?_eq_some_iff.mp hg).1
  have gok := hp.2.2.2.1 g (List.mem_of_getElem? hg)
  have h2 := hp.2.1
  have moA : ∀ {a b : Nat → Nat → Int32}, frA a b → frQ a b := fun z => z.mo (by simp)
  rw [tr113, o12, c_part h2 hi (show 0 < 5 by decide), bI_some, q0, sg113_6]
  unfold oAct
  by_cases k3 : g.1 = 3
  · rw [if_pos k3, k3, if_pos (by trivial)]
    obtain ⟨iv1, lv1, a1, a2, a3, a4⟩ := C_passF X d im lw tl iv lv A h ho
    rw [a1, bI_some, sg113_16]
    exact ⟨iv1, lv1, rfl, a2, moA a3, a4, by rw [a3 42 (by decide)], fun _ => by rw [a3 42 (by decide), if_neg (by omega)]⟩
  · have g4 := gok.1
    rw [if_neg k3, if_neg (fun z => k3 ((nI_eq (by omega) (by omega)).mp z)), o12, c_part h2 hi (show 2 < 5 by decide), bI_some, sg113_28]
    obtain ⟨s1, s2⟩ := q3 k3
    obtain ⟨t1, f1, r1, r2⟩ := c_sumT X (d + 9) lv hp s1 hw
    rw [r1, bI_some, sg113_35, b2i_ite]
    have agu : ∀ (a : Nat → Nat → Int32) (t : Int32), agC a (upd2 a 18 1 t) := fun a t x h1 h2 => upd2_off _ _ _ _ h2
    have agl : ∀ (a : Nat → Nat → Int64) (t : Nat → Int64), agL a (upr a 19 t) := fun a t x h1 => upr_off _ _ _ h1
    have moC : ∀ {a b : Nat → Nat → Int32}, agC a b → frQ a b := fun z => z.fr (by simp) (by simp)
    cases hx : denE g.2.2.1 w with
    | none =>
      rw [if_neg (by simp)]
      refine ⟨_, _, rfl, h.ag (agu iv t1), moC (agu iv t1), agl lv f1, by rw [upd2_off _ _ _ _ (by decide)], fun z => absurd (show (0 : Int32) ≤ rcode 2 from z) (by decide)⟩
    | some x =>
      rw [if_pos (show (some x).isSome = true from rfl), tr120, tr40, bI_some, sg120_7, bI_some, sg113_48, upr_self, r2 x hx, o12]
      have hp1 : prgC (SS im lw tl) (upd2 iv 18 1 t1) gs := hp.fr (upd2_off _ _ _ _ (by decide)) (upd2_off _ _ _ _ (by decide)) (upd2_off _ _ _ _ (by decide))
      have hw1 : ∀ k, k < 23 → (upd2 iv 18 1 t1) 42 k = w k := fun k hk => by rw [upd2_off _ _ _ _ (by decide)]; exact hw k hk
      obtain ⟨t2, f2, u1, u2⟩ := c_sumT X (d + 9) (upr lv 19 f1) hp1 s2 hw1
      have e14 : (upd2 iv 18 1 t1) 14 = iv 14 := upd2_off _ _ _ _ (by decide)
      rw [c_part hp1.2.1 hi (show 3 < 5 by decide), e14, bI_some, sg113_61, u1, bI_some, sg113_68, b2i_ite]
      have ag2 := (agu iv t1).tr (agu (upd2 iv 18 1 t1) t2)
      have agl2 := (agl lv f1).tr (agl (upr lv 19 f1) f2)
      cases hy : denE g.2.2.2.1 w with
      | none =>
        rw [if_neg (by simp)]
        exact ⟨_, _, rfl, h.ag ag2, moC ag2, agl2, by rw [ag2 42 (by decide) (by decide)], fun z => absurd (show (0 : Int32) ≤ rcode 2 from z) (by decide)⟩
      | some y =>
        have hl19 : (upr (upr lv 19 f1) 19 f2) 19 0 = y := by rw [upr_self]; exact u2 y hy
        rw [if_pos (show (some y).isSome = true from rfl), tr120, tr40, bI_some, sg120_7, bI_some, sg113_81, hl19]
        have h' := h.ag ag2
        simp only
        by_cases k1 : g.1 = 1
        · rw [if_pos k1, if_pos (show nI g.1 = nI 1 by rw [k1])]
          obtain ⟨iv1, lv1, a1, a2, a3, a4⟩ := C_feedF x.toInt32 y.toInt32 X d im lw tl _ (upr (upr lv 19 f1) 19 f2) A h' ho
          rw [a1, bI_some, sg113_96]
          exact ⟨iv1, lv1, rfl, a2, (moC ag2).tr (moA a3), agl2.tr a4, by rw [a3 42 (by decide), ag2 42 (by decide) (by decide)], fun _ => by rw [a3 42 (by decide), ag2 42 (by decide) (by decide), if_neg (by omega)]⟩
        rw [if_neg k1, if_neg (fun z => k1 ((nI_eq (by omega) (by omega)).mp z))]
        by_cases k2 : g.1 = 2
        · rw [if_pos k2, if_pos (show nI g.1 = nI 2 by rw [k2])]
          obtain ⟨iv1, lv1, a1, a2, a3, a4⟩ := C_moveF x.toInt32 y.toInt32 X d im lw tl _ (upr (upr lv 19 f1) 19 f2) A h' ho
          rw [a1, bI_some, sg113_110]
          exact ⟨iv1, lv1, rfl, a2, (moC ag2).tr (moA a3), agl2.tr a4, by rw [a3 42 (by decide), ag2 42 (by decide) (by decide)], fun _ => by rw [a3 42 (by decide), ag2 42 (by decide) (by decide), if_neg (by omega)]⟩
        rw [if_neg k2, if_neg (fun z => k2 ((nI_eq (by omega) (by omega)).mp z))]
        obtain ⟨iv1, lv1, a1, a2, a3, a4⟩ := C_crackF x.toInt32 y.toInt32 X d im lw tl _ (upr (upr lv 19 f1) 19 f2) A h' ho
        rw [a1, bI_some, sg113_119]
        refine ⟨_, lv1, rfl, a2.fr (fun a ha => upd2_off _ _ _ _ (by simp [ncC] at ha; omega)) (fun a ha => upd2_off _ _ _ _ (by omega)), ((moC ag2).tr (moA a3)).tr (fr_upd _ _ _ (by simp)), agl2.tr a4, by rw [upd2_ne _ _ _ _ (by omega), a3 42 (by decide), ag2 42 (by decide) (by decide)], fun _ => by rw [upd2_self, if_pos (by omega)]⟩
