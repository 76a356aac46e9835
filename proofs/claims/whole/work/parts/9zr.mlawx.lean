/-! law: the reference's call -/
theorem wvF_l (w : Nat → Int32) : wvF false w = lwv w := rfl
theorem law_cdm {q : Bool} {gs : List GC} (hg : ∀ g, g ∈ gs → gOK q g) (hl : (cMA gs).length ≤ 400) : ∀ i, i < (cMA gs).length → ((cMA gs).getD i (0, 0)).1 ≤ 30 ∧ ((cMA gs).getD i (0, 0)).2 < 1000000 ∧ (((cMA gs).getD i (0, 0)).1 < 20 → ((cMA gs).getD i (0, 0)).1 ≤ 10) := by
  have key : ∀ (m : Nat) (hs : List GC), hs.length = m → (∀ g, g ∈ hs → gOK q g) → (cMA hs).length ≤ 400 → ∀ x, x ∈ cMA hs → x.1 ≤ 30 ∧ x.2 < 1000000 ∧ (x.1 < 20 → x.1 ≤ 10) := by
    intro m
    induction m with
    | zero => intro hs h _ _ x hx; rw [List.length_eq_zero_iff.mp h] at hx; cases hx
    | succ m ih =>
      intro hs h hg hl x hx
      rcases List.eq_nil_or_concat hs with e | ⟨ts, g, e⟩
      · rw [e] at h; cases h
      · have e : hs = ts ++ [g] := by rw [e, List.concat_eq_append]
        subst e
        rw [cMA_snoc] at hx hl
        rw [List.length_append] at hl h
        rcases List.mem_append.mp hx with hx | hx
        · exact ih ts (by rw [List.length_singleton] at h; omega) (fun g hg2 => hg g (by simp [hg2])) (by omega) x hx
        · obtain ⟨o1, o2, o3, o4, o5, o6, o7, o8⟩ := hg g (by simp)
          have sEm : ∀ (y : Option Ex), (∀ e, y = some e → oE1 q e) → ∀ z, z ∈ eM y → z.1 ≤ 30 ∧ z.2 < 1000000 ∧ (z.1 < 20 → z.1 ≤ 10) := by
            intro y hy z hz
            cases y with
            | none => cases hz
            | some e =>
              obtain ⟨L, t1, t2⟩ := hy e rfl
              have := t1.2.2.2.2.2.1 z hz
              exact ⟨this.1, by omega, this.2.2⟩
          unfold gcM at hx hl
          rcases List.mem_append.mp hx with hx | hx
          · exact sEm _ o3 x hx
          · rcases List.mem_append.mp hx with hx | hx
            · exact sEm _ o4 x hx
            · rw [List.length_append, List.length_append] at hl
              cases ht : g.2.2.2.2 with
              | none => rw [ht] at hx; cases hx
              | some t =>
                rw [ht] at hx hl
                obtain ⟨L, t1, t2⟩ := o5 t ht
                have := t1.2.2.2.2.2.1 _ x hx
                have hl2 : (tM (some t) ((cMA ts).length + (eM g.2.2.1).length + (eM g.2.2.2.1).length)).length = (t.2.1 ((cMA ts).length + (eM g.2.2.1).length + (eM g.2.2.2.1).length)).length := rfl
                rw [hl2] at hl
                exact ⟨this.1, by omega, this.2.2⟩
  intro i hi
  have : (cMA gs).getD i (0, 0) ∈ cMA gs := by
    rw [List.getD_eq_getElem?_getD, List.getElem?_eq_getElem hi]; exact List.getElem_mem hi
  exact key gs.length gs rfl hg hl _ this
theorem law_lawM {gs : List GC} (hg : ∀ g, g ∈ gs → gOK false g) (h12 : gs.length ≤ 12) (hl : (cMA gs).length ≤ 400) {r : Nat → Int32} {b : Nat} (r1 : r (b + 1) = nI gs.length) (rr : ∀ j g, gs[j]? = some g → ∀ k, (k = 0 ∨ (3 ≤ k ∧ k ≤ 6)) → r (b + 2 + 8 * j + k) = lrw g (cMA (gs.take j)).length k) (rc : ∀ k, k < (cMA gs).length → r (b + 98 + 2 * k) = nI ((cMA gs).getD k (0, 0)).1 ∧ r (b + 98 + 2 * k + 1) = nI ((cMA gs).getD k (0, 0)).2) : lawM r b (lawW gs).1 (lawW gs).2 := by
  refine ⟨h12, r1, fun k => (cMA gs).getD k (0, 0), (cMA gs).length, hl, fun k hk => ?_, fun i hi => ?_⟩
  · obtain ⟨q1, q2, q3⟩ := law_cdm hg hl k hk
    exact ⟨(rc k hk).1, (rc k hk).2, q1, q2, q3⟩
  · have hi : i < gs.length := hi
    have hgi : gs[i]? = some gs[i] := List.getElem?_eq_getElem hi
    generalize gs[i] = g at hgi
    have ok := hg g (List.mem_of_getElem? hgi)
    have e : (lawW gs).1 i = clO g := by show (match gs[i]? with | none => _ | some g => clO g) = _; rw [hgi]
    obtain ⟨R, hR⟩ := cF_at gcM gs.length gs rfl i g hgi
    have hR : cMA gs = cMA (gs.take i) ++ (gcM g (cMA (gs.take i)).length ++ R) := hR
    have hll := congrArg List.length hR
    rw [List.length_append, List.length_append] at hll
    have sg := sgm_of hR
    have rr := rr i g hgi
    generalize hb : (cMA (gs.take i)).length = n at sg hll rr
    rw [hb] at hR
    obtain ⟨o1, o2, o3, o4, o5, o6, o7, o8⟩ := ok
    have hs0 := o8 rfl
    have hgc : gcM g n = eM g.2.2.1 ++ tM g.2.2.2.2 (n + (eM g.2.2.1).length) := by
      unfold gcM; rw [hs0]; rfl
    rw [hgc] at sg hll
    rw [List.length_append] at hll
    obtain ⟨sg1, sg2⟩ := sgm_app sg
    have r0 : r (b + 2 + 8 * i) = nI g.1 := rr 0 (by omega)
    have r3 : r (b + 2 + 8 * i + 3) = nI n := rr 3 (by omega)
    have r4 : r (b + 2 + 8 * i + 4) = nI (n + (eM g.2.2.1).length) := rr 4 (by omega)
    have r5 : r (b + 2 + 8 * i + 5) = nI (n + (eM g.2.2.1).length) := rr 5 (by omega)
    have r6 : r (b + 2 + 8 * i + 6) = nI (n + (eM g.2.2.1).length + (tM g.2.2.2.2 (n + (eM g.2.2.1).length)).length) := rr 6 (by omega)
    rw [e]
    refine ⟨r0, o1, ?_, fun h3 => ?_, fun h3 => ?_⟩
    · rw [r5, r6]
      show _ ∨ rng _ _ _ _ (denT g.2.2.2.2)
      cases ht : g.2.2.2.2 with
      | none => exact Or.inl ⟨nI_le (Nat.le_refl _) (by omega), fun w => by show denT g.2.2.2.2 w = _; rw [ht]; rfl⟩
      | some t =>
        obtain ⟨L, t1, t2⟩ := o5 t ht
        rw [ht] at sg2 hll
        have ne : 0 < (t.2.1 (n + (eM g.2.2.1).length)).length := List.length_pos_iff.mpr (t1.2.2.2.2.2.2.2 _)
        have hll : (cMA gs).length = n + ((eM g.2.2.1).length + (t.2.1 (n + (eM g.2.2.1).length)).length + R.length) := hll
        refine Or.inr ⟨n + (eM g.2.2.1).length, n + (eM g.2.2.1).length + (t.2.1 (n + (eM g.2.2.1).length)).length, rfl, rfl, by omega, by omega, fun w => ?_⟩
        have := evm_of (t1.2.1 _) t2 sg2 w
        rw [wvF_l] at this
        exact this
    · intro w
      show denE g.2.2.1 w = _
      rw [o6.mp h3]; rfl
    · rw [r3, r4]
      show rng _ _ _ _ (denE g.2.2.1) ∧ ∀ w v, denE g.2.2.1 w = some v → _
      cases hx : g.2.2.1 with
      | none => exact absurd (o6.mpr hx) h3
      | some x =>
        obtain ⟨L, t1, t2⟩ := o3 x hx
        rw [hx] at sg1 hll
        have ne : 0 < x.2.1.length := List.length_pos_iff.mpr t1.2.2.2.2.2.2.2
        have hll : (cMA gs).length = n + (x.2.1.length + (tM g.2.2.2.2 (n + x.2.1.length)).length + R.length) := hll
        refine ⟨⟨n, n + x.2.1.length, rfl, rfl, by omega, by omega, fun w => ?_⟩, fun w v hv => t1.2.2.2.1 w v hv⟩
        have := evm_of (t1.2.1 _) t2 sg1 w
        rw [wvF_l] at this
        exact this
theorem relM_rd {A : St} {iv iv' : Nat → Nat → Int32} {lv lv' : Nat → Nat → Int64} {v : Int32} (h : RelM A iv lv) (hf : frZ iv iv') (ho : frO lv lv') (h20 : iv' 46 20 = nI 0) (h13 : iv' 46 13 = nI 0) (h18 : iv' 46 18 = v) : RelM (stFault (stTape A) v) iv' lv' := by
  obtain ⟨h1, h2, h3, h4, h5, h6, h7, h8⟩ := h
  have z : ∀ a, a < 46 ∨ (46 < a ∧ a < 56) ∨ (60 < a ∧ a < 77) ∨ 77 < a → iv' a = iv a := fun a ha => funext (fun k => hf a k (by omega))
  refine ⟨by rw [z 48 (by omega)]; exact h1, ?_, ⟨h13, fun j hj => by have hj : j < 0 := hj; omega⟩, ?_, ?_, ?_, h20, ho.c h8⟩
  · unfold imgsM; rw [z 49 (by omega), z 50 (by omega)]; exact h2
  · unfold undoM; rw [hf 46 8 (by omega), z 51 (by omega), z 52 (by omega)]; exact h4
  · unfold drawnM; rw [hf 46 58 (by omega), hf 46 59 (by omega), z 78 (by omega)]; exact h5
  · obtain ⟨m1, m2, m3, m4, m5⟩ := h6
    exact ⟨h18, by rw [hf 46 54 (by omega)]; exact m2, by rw [hf 46 11 (by omega)]; exact m3, by rw [hf 46 1 (by omega)]; exact m4, by rw [z 47 (by omega)]; exact m5⟩
theorem relM_tp {A : St} {iv : Nat → Nat → Int32} {lv : Nat → Nat → Int64} (h : RelM A iv lv) : RelM (stTape A) (upd2 iv 46 13 (nI 0)) lv := by
  obtain ⟨h1, h2, h3, h4, h5, h6, h7, h8⟩ := h
  have z : ∀ a, a ≠ 46 → (upd2 iv 46 13 (nI 0)) a = iv a := fun a ha => upd2_off _ _ _ _ ha
  have y : ∀ k, k ≠ 13 → (upd2 iv 46 13 (nI 0)) 46 k = iv 46 k := fun k hk => upd2_ne _ _ _ _ (by omega)
  refine ⟨by rw [z 48 (by omega)]; exact h1, ?_, ⟨upd2_self _ _ _ _, fun j hj => by have hj : j < 0 := hj; omega⟩, ?_, ?_, ?_, by rw [y 20 (by omega)]; exact h7, h8⟩
  · unfold imgsM; rw [z 49 (by omega), z 50 (by omega)]; exact h2
  · unfold undoM; rw [y 8 (by omega), z 51 (by omega), z 52 (by omega)]; exact h4
  · unfold drawnM; rw [y 58 (by omega), y 59 (by omega), z 78 (by omega)]; exact h5
  · unfold miscM; rw [y 18 (by omega), y 54 (by omega), y 11 (by omega), y 1 (by omega), z 47 (by omega)]; exact h6
theorem m_cpR (X : XE) (cl : XCl) (im lw : List (Option Nat)) (tl : List XC) (lv : Nat → Nat → Int64) {b m : Nat} (hb : b + 900 ≤ 5510) (hm : m ≤ 12) : ∀ (k j : Nat) (iv : Nat → Nat → Int32), j + k = 8 * m → iv 46 21 = nI m → ∃ iv', run X cl false 1 xc235 110 [some (.inr (.inr (some 46))), some (.inl (nI b)), some (.inl (nI j))] [] (SS im lw tl, iv, lv) = run X cl false 1 xc235 145 [some (.inr (.inr (some 46))), some (.inl (nI b)), some (.inl (nI 0))] [] (SS im lw tl, iv', lv) ∧ fr [48] iv iv' ∧ ∀ x, iv' 48 x = if b + 2 + j ≤ x ∧ x < b + 2 + 8 * m then iv 56 (x - (b + 2)) else iv 48 x := by
  intro k
  induction k with
  | zero =>
    intro j iv hj h21
    rw [sg235_110, h21, pk_mul, if_pos (nI_le (by omega) (by omega))]
    exact ⟨iv, rfl, fun _ _ => rfl, fun x => by rw [if_neg (by omega)]⟩
  | succ k ih =>
    intro j iv hj h21
    obtain ⟨iv', a1, a2, a3⟩ := ih (j + 1) (upd2 iv 48 (b + 2 + j) (iv 56 j)) (by omega) (by rw [upd2_off _ _ _ _ (by decide)]; exact h21)
    refine ⟨iv', ?_, (fr_upd _ _ _ (by simp)).tr a2, fun x => ?_⟩
    · rw [sg235_110, h21, pk_mul, if_neg (nI_ge (by omega) (by omega)), if_pos (inb_nI (by omega) (by omega)), nI_add, nI_add, if_pos (ib5k (by omega)), nI_clamp (by omega), nI_clamp (by omega), nI_add]
      exact a1
    · rw [a3 x, upd2_off _ _ _ _ (by decide)]
      by_cases e : x = b + 2 + j
      · subst e; rw [if_neg (by omega), if_pos (by omega), upd2_self, show b + 2 + j - (b + 2) = j by omega]
      · rw [upd2_ne _ _ _ _ (fun z => e z.2)]
        by_cases e2 : b + 2 + j ≤ x ∧ x < b + 2 + 8 * m
        · rw [if_pos e2, if_pos (by omega)]
        · rw [if_neg e2, if_neg (by omega)]
theorem m_cpC (X : XE) (cl : XCl) (im lw : List (Option Nat)) (tl : List XC) (lv : Nat → Nat → Int64) {b m : Nat} (hb : b + 900 ≤ 5510) (hm : m ≤ 400) : ∀ (k j : Nat) (iv : Nat → Nat → Int32), j + k = m → iv 46 23 = nI m → ∃ iv', run X cl false 1 xc235 145 [some (.inr (.inr (some 46))), some (.inl (nI b)), some (.inl (nI j))] [] (SS im lw tl, iv, lv) = run X cl false 1 xc235 145 [some (.inr (.inr (some 46))), some (.inl (nI b)), some (.inl (nI m))] [] (SS im lw tl, iv', lv) ∧ fr [48] iv iv' ∧ (∀ i, j ≤ i → i < m → iv' 48 (b + 98 + 2 * i) = iv 57 i ∧ iv' 48 (b + 98 + 2 * i + 1) = iv 58 i) ∧ ∀ x, (x < b + 98 + 2 * j ∨ b + 98 + 2 * m ≤ x) → iv' 48 x = iv 48 x := by
  intro k
  induction k with
  | zero =>
    intro j iv hj h23
    rw [show j = m by omega]
    exact ⟨iv, rfl, fun _ _ => rfl, fun i h1 h2 => by omega, fun _ _ => rfl⟩
  | succ k ih =>
    intro j iv hj h23
    obtain ⟨iv', a1, a2, a3, a4⟩ := ih (j + 1) (upd2 (upd2 iv 48 (b + 98 + 2 * j) (iv 57 j)) 48 (b + 98 + 2 * j + 1) (iv 58 j)) (by omega) (by rw [upd2_off _ _ _ _ (by decide), upd2_off _ _ _ _ (by decide)]; exact h23)
    refine ⟨iv', ?_, ((fr_upd _ _ _ (by simp)).tr (fr_upd _ _ _ (by simp))).tr a2, fun i h1 h2 => ?_, fun x hx => ?_⟩
    · rw [sg235_145, h23, if_neg (nI_ge (by omega) (by omega)), if_pos (inb_nI (by omega) (by omega)), nI_add, pk_mul, nI_add, if_pos (ib5k (by omega)), if_pos (inb_nI (by omega) (by omega)), nI_add, if_pos (ib5k (by omega)), nI_clamp (by omega), nI_clamp (by omega), nI_clamp (by omega), nI_add]
      exact a1
    · by_cases e : i = j
      · subst e
        rw [a4 _ (by omega), a4 _ (by omega), upd2_ne _ _ _ _ (by omega), upd2_self, upd2_self]
        exact ⟨rfl, rfl⟩
      · obtain ⟨q1, q2⟩ := a3 i (by omega) h2
        rw [q1, q2, upd2_off _ _ _ _ (by decide), upd2_off _ _ _ _ (by decide), upd2_off _ _ _ _ (by decide), upd2_off _ _ _ _ (by decide)]
        exact ⟨rfl, rfl⟩
    · rw [a4 x (by omega), upd2_ne _ _ _ _ (by omega), upd2_ne _ _ _ _ (by omega)]
theorem frZ_out {iv iv' : Nat → Nat → Int32} (h : frZ iv iv') : outI iv iv' := fun a ha => funext (fun k => h a k (by omega))
theorem M_law : MSpec 235 [] sp_law := by
  intro X d im lw tl iv lv A h ho
  show MR' im lw tl iv _ _
  have h0 := h.thr (nI 0)
  have hm6 : A.1.2.2.2.1.1 ≤ 6 := ho.1.2.2.2.1
  have h3 : iv 48 3 = nI A.1.2.2.2.1.1 := h.1.2.2.2.2.1
  rw [tr235, h3]
  unfold sp_law
  by_cases m6 : 6 ≤ A.1.2.2.2.1.1
  · rw [if_pos m6, if_pos (show nI A.1.2.2.2.1.1 = nI 6 by rw [show A.1.2.2.2.1.1 = 6 by omega])]
    exact mrf (A := stTape A) (relM_tp h0) ((out0 iv).tr (out_upd _ _ _ (by decide) (by decide))) (i := 3) (by decide) (by rw [m_rf3 X (d + 38), bI_some, sg235_27])
  have ne : ¬ nI A.1.2.2.2.1.1 = nI 6 := fun z => by have := congrArg Int32.toNatClampNeg z; rw [nI_clamp (by omega), nI_clamp (by omega)] at this; omega
  rw [if_neg m6, if_neg ne]
  have hT := ho.2.2.1
  obtain ⟨hb1, hb2⟩ := bytF_ok hT
  have tx : txtM (bytF A.2.2.1) A.2.2.1.1 (upd2 iv 46 0 (nI 0)) := ⟨h0.2.2.1.1, hT.1, fun j hj => by rw [h0.2.2.1.2 j hj]; exact hb1 j hj, hb2⟩
  obtain ⟨iv1, lv1, a1, a2, a3, a4, a5⟩ := m_begin (X := X) (im := im) (lw := lw) (tl := tl) (d + 35) (lv := lv) tx h0.c false
  have a1 : call X xT (d + 39) 236 [.inr (.inr (some 46)), .inl (nI 0)] (SS im lw tl, upd2 iv 46 0 (nI 0), lv) = some (none, (SS im lw tl, iv1, lv1)) := a1
  obtain ⟨iv2, lv2, b1, b2, b3, b4, b5, b6⟩ := m_lawLoop (X := X) (im := im) (lw := lw) (tl := tl) (d + 30) 12 [] 0 0 iv1 lv1 rfl a2 a3 (fun j g hj => by cases hj)
  have b2 : moX (bytF A.2.2.1) A.2.2.1.1 rowsL iv2 (txtR false A.2.2.1) := b2
  rw [a1, bV_some, sg235_33, b1, sg235_68]
  have fz : frZ (upd2 iv 46 0 (nI 0)) iv2 := a4.tr b5
  have fo : frO lv lv2 := a5.tr b6
  cases hr : txtR false A.2.2.1 with
  | inl e =>
    rw [hr] at b2
    rw [b2.1, if_neg n1z]
    exact mrf (A := stFault (stTape A) _) (relM_rd h0 fz fo b3 b4 b2.2) ((out0 iv).tr (frZ_out fz)) (i := 4) (by decide) (by rw [m_rf4 X (d + 38), bI_some, sg235_81])
  | inr gs =>
    rw [hr] at b2
    obtain ⟨⟨c1, c2⟩, c3, c4, c5, c6, c7, c8⟩ := b2
    have gok := (pText_ok (nt := ntF (bytF A.2.2.1) A.2.2.1.1) false (tkF_end _ _) 12 [] 0 0 gs (by omega) (Nat.zero_le _) (fun g hg => by cases hg) hr).2
    have r2 := relM_rd h0 fz fo b3 b4 c2
    have h32 : iv2 48 3 = nI A.1.2.2.2.1.1 := r2.1.2.2.2.2.1
    generalize hbb : 110 + 900 * A.1.2.2.2.1.1 = bb
    rw [c1, if_pos n0z, h32, pk_mul, nI_add, hbb, nI_add, if_pos (ib5k (by omega)), nI_clamp (by omega), c4]
    have q21 : (upd2 iv2 48 (bb + 1) (nI gs.length)) 46 21 = nI gs.length := by rw [upd2_off _ _ _ _ (by decide)]; exact c4
    obtain ⟨iv3, d1, d2, d3⟩ := m_cpR X (call X xT (d + 39)) im lw tl lv2 (b := bb) (m := gs.length) (by omega) c3 (8 * gs.length) 0 _ (by omega) q21
    obtain ⟨iv4, e1, e2, e3, e4⟩ := m_cpC X (call X xT (d + 39)) im lw tl lv2 (b := bb) (m := (cMA gs).length) (by omega) c6 (cMA gs).length 0 iv3 (by omega) (by rw [d2 46 (by decide), upd2_off _ _ _ _ (by decide)]; exact c5)
    have f4 : fr [48] iv2 iv4 := ((fr_upd _ _ _ (by simp)).tr d2).tr e2
    have h34 : iv4 48 3 = nI A.1.2.2.2.1.1 := by rw [e4 3 (by omega), d3, if_neg (by omega), upd2_ne _ _ _ _ (by omega)]; exact h32
    have h234 : iv4 46 23 = nI (cMA gs).length := by rw [f4 46 (by decide)]; exact c5
    rw [d1, e1, sg235_145, h234, if_pos (nI_le (Nat.le_refl _) (by omega)), h34, nI_add, pk_sub (by omega), show A.1.2.2.2.1.1 + 1 - 1 = A.1.2.2.2.1.1 by omega, m_tellP X (d + 38) im lw tl _ lv2 (nI_p0 (by omega)), bI_some, sg235_221]
    -- the row
    have lo : ∀ x, x ≠ 3 → (x < bb ∨ bb + 900 ≤ x) → (upd2 iv4 48 3 (nI (A.1.2.2.2.1.1 + 1))) 48 x = iv2 48 x := fun x h3 hx => by
      rw [upd2_ne _ _ _ _ (by omega), e4 x (by omega), d3, if_neg (by omega), upd2_ne _ _ _ _ (by omega)]
    have in1 : ∀ x, bb ≤ x → x < bb + 98 → (upd2 iv4 48 3 (nI (A.1.2.2.2.1.1 + 1))) 48 x = iv3 48 x := fun x h1 h2 => by
      rw [upd2_ne _ _ _ _ (by omega), e4 x (by omega)]
    refine ⟨_, lv2, rfl, RelM.st (A := stFault (stTape (stW A (addLw A.1 (lawW gs)))) (-1)) ?_ _, (out0 iv).tr ((frZ_out fz).tr ((f4.out (by simp)).tr ((out_upd _ _ _ (by decide) (by decide)).tr (out_upd _ _ _ (by decide) (by decide)))))⟩
    obtain ⟨g1, g2, g3, g4, g5, g6, g7, g8⟩ := r2
    have z : ∀ a, a ≠ 48 → (upd2 iv4 48 3 (nI (A.1.2.2.2.1.1 + 1))) a = iv2 a := fun a ha => by rw [upd2_off _ _ _ _ ha, f4 a (by simp; exact ha)]
    refine ⟨⟨fun j hj => ?_, ?_, fun j hj => ?_, fun p hp => ?_, ?_, ?_, fun k hk => ?_⟩, ?_, ?_, ?_, ?_, ?_, by rw [z 46 (by decide)]; exact g7, g8⟩
    · unfold fM
      have := mx_sc hj
      rw [lo _ (by omega) (by omega)]
      exact g1.1 j hj
    · rw [lo 2 (by omega) (by omega)]; exact g1.2.1
    · rw [lo _ (by omega) (by omega)]; exact g1.2.2.1 j hj
    · rw [lo _ (by omega) (by omega)]; exact g1.2.2.2.1 p hp
    · rw [upd2_self]; rfl
    · rw [lo 4 (by omega) (by omega)]; exact g1.2.2.2.2.2.1
    · have hk : k < A.1.2.2.2.1.1 + 1 := hk
      show lawM _ (110 + 900 * k) ((fun k => if k = A.1.2.2.2.1.1 then lawW gs else A.1.2.2.2.1.2 k) k).1 ((fun k => if k = A.1.2.2.2.1.1 then lawW gs else A.1.2.2.2.1.2 k) k).2
      simp only
      by_cases e : k = A.1.2.2.2.1.1
      · rw [if_pos e, e, hbb]
        refine law_lawM gok c3 c6 ?_ (fun j g hj w hw => ?_) (fun w hw => ?_)
        · rw [in1 _ (by omega) (by omega), d3, if_neg (by omega), upd2_self]
        · have hjl : j < gs.length := (List.getElem?_eq_some_iff.mp hj).1
          rw [in1 _ (by omega) (by omega), d3, if_pos (by omega), upd2_off _ _ _ _ (by decide), show bb + 2 + 8 * j + w - (bb + 2) = 8 * j + w by omega]
          exact c8 j g hj w hw
        · have hget : (cMA gs)[w]? = some ((cMA gs).getD w (0, 0)) := by rw [List.getD_eq_getElem?_getD, List.getElem?_eq_getElem hw]; rfl
          obtain ⟨s1, s2⟩ := e3 w (by omega) hw
          obtain ⟨u1, u2⟩ := c7 w _ hget
          rw [upd2_ne _ _ _ _ (by omega), upd2_ne _ _ _ _ (by omega), s1, s2, d2 57 (by decide), d2 58 (by decide), upd2_off _ _ _ _ (by decide), upd2_off _ _ _ _ (by decide)]
          exact ⟨u1, u2⟩
      · rw [if_neg e]
        have old := g1.2.2.2.2.2.2 k (show k < A.1.2.2.2.1.1 by omega)
        obtain ⟨l1, l2, cd, sz, l3, l4, l5⟩ := old
        have l1 : (A.1.2.2.2.1.2 k).2 ≤ 12 := l1
        have same : ∀ x, 110 + 900 * k ≤ x → x < 110 + 900 * k + 900 → (upd2 iv4 48 3 (nI (A.1.2.2.2.1.1 + 1))) 48 x = iv2 48 x := fun x h1 h2 => lo x (by omega) (by omega)
        refine ⟨l1, by rw [same _ (by omega) (by omega)]; exact l2, cd, sz, l3, fun w hw => ?_, fun i hi => ?_⟩
        · rw [same _ (by omega) (by omega), same _ (by omega) (by omega)]; exact l4 w hw
        · have hi2 : i < (A.1.2.2.2.1.2 k).2 := hi
          rw [same _ (by omega) (by omega), same _ (by omega) (by omega), same _ (by omega) (by omega), same _ (by omega) (by omega), same _ (by omega) (by omega)]; exact l5 i hi
    · unfold imgsM; rw [z 49 (by decide), z 50 (by decide)]; exact g2
    · rw [z 46 (by decide)]; exact ⟨g3.1, fun j hj => by have hj : j < 0 := hj; omega⟩
    · unfold undoM; rw [z 46 (by decide), z 51 (by decide), z 52 (by decide)]; exact g4
    · unfold drawnM; rw [z 46 (by decide), z 78 (by decide)]; exact g5
    · unfold miscM; rw [z 46 (by decide), z 47 (by decide)]; exact g6
theorem O_law (A : St) (h : OKA A) : OKA (sp_law A).2 := by
  have tp : okT (0, A.2.2.1.2) := ⟨by show 0 ≤ 400; omega, fun j hj => by have hj : j < 0 := hj; omega⟩
  unfold sp_law
  by_cases m6 : 6 ≤ A.1.2.2.2.1.1
  · rw [if_pos m6]; exact ⟨h.1, h.2.1, tp, h.2.2.2.1, h.2.2.2.2⟩
  rw [if_neg m6]
  cases txtR false A.2.2.1 with
  | inl e => exact ⟨h.1, h.2.1, tp, h.2.2.2.1, h.2.2.2.2⟩
  | inr gs =>
    refine ⟨⟨h.1.1, h.1.2.1, h.1.2.2.1, by show A.1.2.2.2.1.1 + 1 ≤ 6; omega, ?_⟩, h.2.1, tp, h.2.2.2.1, h.2.2.2.2⟩
    rcases h.1.2.2.2.2 with q | ⟨k, q1, q2⟩
    · exact Or.inl q
    · exact Or.inr ⟨k, by show k < A.1.2.2.2.1.1 + 1; omega, q2⟩
theorem S_law : stepOK 68 235 [] := step_of2 C_law M_law O_law
