/-! image, back: what both do, and the reference's part -/
def stI (A : St) (k : Nat) : St := (A.1, (fun i => if i = k then some A.1 else A.2.1 i), A.2.2)
def stB (A : St) (w : Wd) : St := (w, A.2.1, A.2.2.1, [], A.2.2.2.2)
def sp_image (k : Int32) (A : St) : Int32 × St := if inV k (nI 1) = true then (nI 0, stS (stI A k.toNatClampNeg) (nI 0)) else rfs 0 A
def bk1 (A : St) (o : Option Wd) : Int32 × St := match o with
  | none => rfs 1 A
  | some w => (nI 0, stS (stB A w) (nI 0))
def sp_back (k : Int32) (A : St) : Int32 × St := if inV k (nI 1) = true then bk1 A (A.2.1 k.toNatClampNeg) else rfs 0 A
theorem lawM.cp {g g' : Nat → Int32} {b : Nat} {cl : Nat → CL} {n : Nat} (h : lawM g b cl n) (hb : b ≤ 4610) (e : ∀ i, i < 5510 → g' i = g i) : lawM g' b cl n := by
  obtain ⟨h1, h2, cd, sz, h3, h4, h5⟩ := h
  refine ⟨h1, by rw [e _ (by omega)]; exact h2, cd, sz, h3, fun k hk => ?_, fun i hi => ?_⟩
  · rw [e _ (by omega), e _ (by omega)]; exact h4 k hk
  · rw [e _ (by omega), e _ (by omega), e _ (by omega), e _ (by omega), e _ (by omega)]; exact h5 i hi
theorem rowM.cp {g g' : Sc} {w : Wd} (h : rowM g w) (hw : w.2.2.2.1.1 ≤ 6) (e : ∀ i, i < 5510 → g' i = g i) : rowM g' w := by
  obtain ⟨h1, h2, h3, h4, h5, h6, h7⟩ := h
  refine ⟨fun j hj => ?_, by rw [e 2 (by omega)]; exact h2, fun j hj => by rw [e _ (by omega)]; exact h3 j hj, fun p hp => by rw [e _ (by omega)]; exact h4 p hp, by rw [e 3 (by omega)]; exact h5, by rw [e 4 (by omega)]; exact h6, fun k hk => (h7 k hk).cp (by omega) e⟩
  rw [h1 j hj]; unfold fM; rw [e _ (by have := mx_lt hj; omega)]
theorem m_img_loop (X : XE) (cl : XCl) (im lw : List (Option Nat)) (tl : List XC) (lv : Nat → Nat → Int64) {k : Nat} (hk : k < 2) : ∀ (m j : Nat) (iv : Nat → Nat → Int32), j + m = 5510 → ∃ iv', run X cl false 1 xc200 23 [some (.inr (.inr (some 46))), some (.inl (nI k)), some (.inl (nI j))] [] (SS im lw tl, iv, lv) = run X cl false 1 xc200 23 [some (.inr (.inr (some 46))), some (.inl (nI k)), some (.inl (nI 5510))] [] (SS im lw tl, iv', lv) ∧ (∀ i, iv' 49 i = if 5510 * k + j ≤ i ∧ i < 5510 * k + 5510 then iv 48 (i - 5510 * k) else iv 49 i) ∧ fr [49] iv iv' := by
  intro m
  induction m with
  | zero =>
    intro j iv hj
    have : j = 5510 := by omega
    subst this
    exact ⟨iv, rfl, fun i => by rw [if_neg (by omega)], fun _ _ => rfl⟩
  | succ m ih =>
    intro j iv hj
    obtain ⟨iv', a1, a2, a3⟩ := ih (j + 1) (upd2 iv 49 (5510 * k + j) (iv 48 j)) (by omega)
    refine ⟨iv', ?_, fun i => ?_, (fr_upd _ _ _ (by simp)).tr a3⟩
    · rw [sg200_23, if_neg (nI_ge (by omega) (by omega)), if_pos (inb_nI (by omega) (by omega)), pk_mul, nI_add, if_pos (inb_nI (by omega) (by omega)), nI_add, nI_clamp (by omega), nI_clamp (by omega)]
      exact a1
    · rw [a2 i, upd2_off _ _ _ _ (by decide)]
      by_cases c : i = 5510 * k + j
      · subst c
        rw [if_neg (by omega), if_pos (by omega), upd2_self]
        congr 1; omega
      · rw [upd2_ne _ _ _ _ (fun q => c q.2)]
        by_cases c2 : 5510 * k + j ≤ i ∧ i < 5510 * k + 5510
        · rw [if_pos c2, if_pos (by omega)]
        · rw [if_neg c2, if_neg (by omega)]
theorem m_bck_loop (X : XE) (cl : XCl) (im lw : List (Option Nat)) (tl : List XC) (lv : Nat → Nat → Int64) {k : Nat} (hk : k < 2) : ∀ (m j : Nat) (iv : Nat → Nat → Int32), j + m = 5510 → ∃ iv', run X cl false 1 xc202 39 [some (.inr (.inr (some 46))), some (.inl (nI k)), some (.inl (nI j))] [] (SS im lw tl, iv, lv) = run X cl false 1 xc202 39 [some (.inr (.inr (some 46))), some (.inl (nI k)), some (.inl (nI 5510))] [] (SS im lw tl, iv', lv) ∧ (∀ i, iv' 48 i = if j ≤ i ∧ i < 5510 then iv 49 (5510 * k + i) else iv 48 i) ∧ fr [48] iv iv' := by
  intro m
  induction m with
  | zero =>
    intro j iv hj
    have : j = 5510 := by omega
    subst this
    exact ⟨iv, rfl, fun i => by rw [if_neg (by omega)], fun _ _ => rfl⟩
  | succ m ih =>
    intro j iv hj
    obtain ⟨iv', a1, a2, a3⟩ := ih (j + 1) (upd2 iv 48 j (iv 49 (5510 * k + j))) (by omega)
    refine ⟨iv', ?_, fun i => ?_, (fr_upd _ _ _ (by simp)).tr a3⟩
    · rw [sg202_39, if_neg (nI_ge (by omega) (by omega)), pk_mul, nI_add, if_pos (inb_nI (by omega) (by omega)), if_pos (inb_nI (by omega) (by omega)), nI_add, nI_clamp (by omega), nI_clamp (by omega)]
      exact a1
    · rw [a2 i, upd2_off _ _ _ _ (by decide)]
      by_cases c : i = j
      · subst c
        rw [if_neg (by omega), if_pos (by omega), upd2_self]
      · rw [upd2_ne _ _ _ _ (fun q => c q.2)]
        by_cases c2 : j ≤ i ∧ i < 5510
        · rw [if_pos c2, if_pos (by omega)]
        · rw [if_neg c2, if_neg (by omega)]
theorem M_image (k : Int32) : MSpec 200 [.inl k] (sp_image k) := by
  intro X d im lw tl iv lv A h ho
  show MR' im lw tl iv _ _
  have h0 := h.thr (nI 0)
  rw [tr200]
  generalize hg : upd2 iv 46 0 (nI 0) = ivz at h0
  have o0 : outI iv ivz := hg ▸ out0 iv
  rw [m_in X (d + 38), bI_some, sg200_12, b2i_ite, in_inV k (top := 1) (by decide)]
  unfold sp_image
  cases hx : inV k (nI 1)
  · rw [if_neg (by decide), if_neg (by decide)]
    exact mrf h0 o0 (i := 0) (by decide) (by rw [m_rf0, bI_some, sg200_20])
  rw [if_pos rfl, if_pos rfl]
  obtain ⟨n, hn, rfl⟩ := inV_of (by decide) hx
  obtain ⟨iv', a1, a2, a3⟩ := m_img_loop X (call X xT (d + 39)) im lw tl lv (show n < 2 by omega) 5510 0 ivz (by omega)
  rw [a1, sg200_23, if_pos (nI_le (by omega) (by omega)), if_pos (inb_nI (by omega) (by omega)), m_tellP X (d + 38) im lw tl _ lv (v := nI 0) (by decide), bI_some, sg200_66, nI_clamp (by omega)]
  refine ⟨_, lv, rfl, RelM.st (A := stI A n) ?_ (nI 0), ?_⟩
  · obtain ⟨g1, g2, g3, g4, g5, g6, g7, g8⟩ := h0
    have e : ∀ a, a ≠ 49 → a ≠ 50 → (upd2 iv' 50 n (nI 1)) a = ivz a := fun a q1 q2 => (upd2_off _ _ _ _ q2).trans (a3 a (by simp [q1]))
    refine ⟨?_, fun i hi => ?_, ?_, ?_, ?_, ?_, ?_, g8⟩
    · rw [e 48 (by decide) (by decide)]; exact g1
    · show ((if i = n then some A.1 else A.2.1 i) = none ∧ _) ∨ ∃ w, (if i = n then some A.1 else A.2.1 i) = some w ∧ _
      by_cases c : i = n
      · subst c
        refine Or.inr ⟨A.1, by rw [if_pos rfl], by rw [upd2_self], ?_⟩
        refine g1.cp ho.1.2.2.2.1 (fun j hj => ?_)
        show (upd2 iv' 50 i (nI 1)) 49 (5510 * i + j) = _
        rw [upd2_off _ _ _ _ (by decide), a2, if_pos (by omega), show 5510 * i + j - 5510 * i = j by omega]
      · rw [if_neg c, upd2_ne _ _ _ _ (fun q => c q.2), a3 50 (by decide)]
        rcases g2 i hi with q | ⟨w, q1, q2, q3⟩
        · exact Or.inl q
        · refine Or.inr ⟨w, q1, q2, q3.cp (ho.2.1 i w q1).2.2.2.1 (fun j hj => ?_)⟩
          show (upd2 iv' 50 n (nI 1)) 49 (5510 * i + j) = _
          rw [upd2_off _ _ _ _ (by decide), a2, if_neg (by omega)]
    · rw [e 46 (by decide) (by decide), e 55 (by decide) (by decide)]; exact g3
    · unfold undoM; rw [e 46 (by decide) (by decide), e 51 (by decide) (by decide), e 52 (by decide) (by decide)]; exact g4
    · unfold drawnM; rw [e 46 (by decide) (by decide), e 78 (by decide) (by decide)]; exact g5
    · unfold miscM; rw [e 46 (by decide) (by decide), e 47 (by decide) (by decide)]; exact g6
    · rw [e 46 (by decide) (by decide)]; exact g7
  · exact o0.tr ((a3.out (by simp)).tr ((out_upd _ _ _ (by decide) (by decide)).tr (out_upd _ _ _ (by decide) (by decide))))
theorem M_back (k : Int32) : MSpec 202 [.inl k] (sp_back k) := by
  intro X d im lw tl iv lv A h ho
  show MR' im lw tl iv _ _
  have h0 := h.thr (nI 0)
  rw [tr202]
  generalize hg : upd2 iv 46 0 (nI 0) = ivz at h0
  have o0 : outI iv ivz := hg ▸ out0 iv
  rw [m_in X (d + 38), bI_some, sg202_12, b2i_ite, in_inV k (top := 1) (by decide)]
  unfold sp_back
  cases hx : inV k (nI 1)
  · rw [if_neg (by decide), if_neg (by decide)]
    exact mrf h0 o0 (i := 0) (by decide) (by rw [m_rf0, bI_some, sg202_20])
  rw [if_pos rfl, if_pos rfl]
  obtain ⟨n, hn, rfl⟩ := inV_of (by decide) hx
  rw [if_pos (inb_nI (by omega) (by omega)), nI_clamp (by omega)]
  rcases h0.2.1 n (by omega) with ⟨q1, q2⟩ | ⟨w, q1, q2, q3⟩
  · rw [q1, q2, if_pos (by decide)]
    exact mrf h0 o0 (i := 1) (by decide) (by rw [m_rf1, bI_some, sg202_36])
  rw [q1, q2, if_neg (by decide)]
  obtain ⟨iv', a1, a2, a3⟩ := m_bck_loop X (call X xT (d + 39)) im lw tl lv (show n < 2 by omega) 5510 0 ivz (by omega)
  rw [a1, sg202_39, if_pos (nI_le (by omega) (by omega)), m_setP X (d + 37) im lw tl _ lv (v := nI 0) (by decide), bI_some, sg202_75]
  refine ⟨_, lv, rfl, ?_, ?_⟩
  · have r1 : RelM (w, A.2) iv' lv := by
      obtain ⟨g1, g2, g3, g4, g5, g6, g7, g8⟩ := h0
      have e : ∀ a, a ≠ 48 → iv' a = ivz a := fun a q1 => a3 a (by simp [q1])
      refine ⟨?_, ?_, ?_, ?_, ?_, ?_, ?_, g8⟩
      · refine q3.cp (ho.2.1 n w q1).2.2.2.1 (fun j hj => ?_)
        rw [a2, if_pos (by omega)]
      · unfold imgsM; rw [e 49 (by decide), e 50 (by decide)]; exact g2
      · rw [e 46 (by decide), e 55 (by decide)]; exact g3
      · unfold undoM; rw [e 46 (by decide), e 51 (by decide), e 52 (by decide)]; exact g4
      · unfold drawnM; rw [e 46 (by decide), e 78 (by decide)]; exact g5
      · unfold miscM; rw [e 46 (by decide), e 47 (by decide)]; exact g6
      · rw [e 46 (by decide)]; exact g7
    exact (r1.clr).st (nI 0)
  · exact o0.tr ((a3.out (by simp)).tr ((out_upd _ _ _ (by decide) (by decide)).tr (out_upd _ _ _ (by decide) (by decide))))
theorem O_image (k : Int32) : ∀ A, OKA A → OKA (sp_image k A).2 := by
  intro A h
  unfold sp_image
  split
  · obtain ⟨a1, a2, a3, a4, a5⟩ := h
    refine ⟨a1, fun i w q => ?_, a3, a4, a5⟩
    have q : (if i = k.toNatClampNeg then some A.1 else A.2.1 i) = some w := q
    split at q
    · injection q with q; rw [← q]; exact a1
    · exact a2 i w q
  · exact h
theorem O_back (k : Int32) : ∀ A, OKA A → OKA (sp_back k A).2 := by
  intro A h
  unfold sp_back
  split
  · cases hx : A.2.1 k.toNatClampNeg with
    | none => exact h
    | some w =>
      obtain ⟨a1, a2, a3, a4, a5⟩ := h
      exact ⟨a2 _ w hx, a2, a3, ⟨by show 0 ≤ 16; omega, fun e he => by cases he⟩, a5⟩
  · exact h
