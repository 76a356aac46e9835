/-! scenes of the reference -/
def eqS (f f' : Nat → Int32) : Prop := ∀ j, j < 59 → f j = f' j
theorem eqS.rf {f : Nat → Int32} : eqS f f := fun _ _ => rfl
theorem eqS.sy {f g : Nat → Int32} (h : eqS f g) : eqS g f := fun j hj => (h j hj).symm
theorem eqS.tr {f g k : Nat → Int32} (h : eqS f g) (h2 : eqS g k) : eqS f k := fun j hj => (h j hj).trans (h2 j hj)
theorem eqS.put {f g : Nat → Int32} (h : eqS f g) (j : Nat) (v : Int32) : eqS (pu f j v) (pu g j v) := fun i hi => by
  simp only [pu]
  split
  · rfl
  · exact h i hi
theorem okS.eq {f g : Nat → Int32} (h : okS f) (e : eqS f g) : okS g := fun j hj => by
  obtain ⟨m, h1, h2⟩ := h j hj
  exact ⟨m, h1, (e j hj).symm.trans h2⟩
theorem wd_eq {f g : Nat → Int32} (h : eqS f g) {t p : Option Nat} (ht : ∀ n, t = some n → n < 4) (hp : ∀ n, p = some n → n < 6) : wd f t p = wd g t p := by
  funext k
  match k with
  | 0 => rfl
  | 1 => rfl
  | 2 => cases p with
    | none => rfl
    | some p => have := hp p rfl; exact h _ (by omega)
  | 3 => cases p with
    | none => rfl
    | some p => have := hp p rfl; exact h _ (by omega)
  | 4 => cases p with
    | none => cases t <;> rfl
    | some p => cases t with
      | none => rfl
      | some t => have := hp p rfl; have := ht t rfl; exact h _ (by omega)
  | 5 => cases t with
    | none => rfl
    | some t => have := ht t rfl; exact h _ (by omega)
  | 6 => cases t with
    | none => rfl
    | some t => have := ht t rfl; exact h _ (by omega)
  | 7 => cases p with
    | none => rfl
    | some p => have := hp p rfl; exact h _ (by omega)
  | 8 => exact h _ (by omega)
  | 9 => exact h _ (by omega)
  | k + 10 => rfl
theorem so_lt {a b : Nat} (h : a < b) : ∀ n, some a = some n → n < b := by intro n e; injection e with e; omega
theorem no_lt {b : Nat} : ∀ n, (none : Option Nat) = some n → n < b := by intro n e; cases e
theorem growV_eq {f g : Nat → Int32} (h : eqS f g) (cl : Nat → CL) (n : Nat) {p : Nat} (hp : p < 6) : growV f cl n p = growV g cl n p := by
  unfold growV; rw [wd_eq h no_lt (so_lt hp)]
theorem wageV_eq {f g : Nat → Int32} (h : eqS f g) (cl : Nat → CL) (n : Nat) {t : Nat} (ht : t < 4) : wageV f cl n t = wageV g cl n t := by
  unfold wageV; rw [wd_eq h (so_lt ht) no_lt]
theorem angV_eq {f g : Nat → Int32} (h : eqS f g) (cl : Nat → CL) (n : Nat) {t p : Nat} (ht : t < 4) (hp : p < 6) : angV f cl n t p = angV g cl n t p := by
  unfold angV; rw [wd_eq h (so_lt ht) (so_lt hp), h (5 + p) (by omega), h (11 + p) (by omega), h (35 + (t * 6 + p)) (by omega)]
theorem barV_eq {f g : Nat → Int32} (h : eqS f g) (cl : Nat → CL) (n : Nat) {t p : Nat} (ht : t < 4) (hp : p < 6) : barV f cl n t p = barV g cl n t p := by
  unfold barV; rw [wd_eq h (so_lt ht) (so_lt hp)]
theorem loyV_eq {f g : Nat → Int32} (h : eqS f g) (cl : Nat → CL) (n : Nat) {t p : Nat} (ht : t < 4) (hp : p < 6) : loyV f cl n t p = loyV g cl n t p := by
  unfold loyV; rw [angV_eq h cl n ht hp, h (23 + t) (by omega)]
theorem reaV_eq {f g : Nat → Int32} (h : eqS f g) (cl : Nat → CL) (n : Nat) {t p : Nat} (ht : t < 4) (hp : p < 6) : reaV f cl n t p = reaV g cl n t p := by
  unfold reaV; rw [angV_eq h cl n ht hp, h (23 + t) (by omega)]
theorem eatF_eq {f g : Nat → Int32} (h : eqS f g) {t p : Nat} (ht : t < 4) (hp : p < 6) : eqS (eatF f t p) (eatF g t p) := by
  unfold eatF
  rw [h (5 + p) (by omega), h (35 + (t * 6 + p)) (by omega)]
  exact (h.put _ _).put _ _
theorem stirF_eq (b u : Int32) : ∀ (m q : Nat) {f g : Nat → Int32}, q + m ≤ 6 → eqS f g → eqS (stirF b u m q f) (stirF b u m q g) := by
  intro m
  induction m with
  | zero => intro q f g _ h; exact h
  | succ m ih =>
    intro q f g hq h
    simp only [stirF]
    refine ih _ (by omega) ?_
    rw [h (17 + q) (by omega), h (11 + q) (by omega)]
    split
    · exact h.put _ _
    · exact h
theorem reactF_eq {f g : Nat → Int32} (h : eqS f g) {n t p : Nat} (did : Int32) (hn : n ≤ 6) (ht : t < 4) (hp : p < 6) : eqS (reactF f n did t p) (reactF g n did t p) := by
  unfold reactF
  rw [h (5 + p) (by omega), h (11 + p) (by omega), h (17 + p) (by omega), h (31 + t) (by omega)]
  split
  · exact stirF_eq _ _ _ _ (by omega) (h.put _ _)
  · split
    · exact stirF_eq _ _ _ _ (by omega) (h.put _ _)
    · exact (h.put _ _).put _ _
theorem feedF_eq {f g : Nat → Int32} (h : eqS f g) {t p : Nat} (ht : t < 4) (hp : p < 6) : eqS (feedF f t p) (feedF g t p) := by
  unfold feedF
  rw [h (27 + t) (by omega)]
  split
  · exact h
  · exact eatF_eq (h.put _ _) ht hp
/-- places of the row that are no scene's -/
def rowS (g g' : Nat → Int32) : Prop := ∀ i, (62 ≤ i ∨ i = 2 ∨ i = 3 ∨ i = 4) → g' i = g i
theorem rowS.rf {g : Nat → Int32} : rowS g g := fun _ _ => rfl
theorem rowS.tr {a b c : Nat → Int32} (h : rowS a b) (h2 : rowS b c) : rowS a c := fun i hi => (h2 i hi).trans (h i hi)
theorem mx_sc {j : Nat} (h : j < 59) : mx j < 62 ∧ mx j ≠ 2 ∧ mx j ≠ 3 ∧ mx j ≠ 4 := by unfold mx; split <;> (try split) <;> (try split) <;> omega
theorem rowS_pu (g : Nat → Int32) {j : Nat} (h : j < 59) (v : Int32) : rowS g (pu g (mx j) v) := fun i hi => pu_n _ _ _ (by have := mx_sc h; omega)
theorem eqS_pu {f g : Nat → Int32} (h : eqS f (fM g)) {j : Nat} (hj : j < 59) (v : Int32) : eqS (pu f j v) (fM (pu g (mx j) v)) := fun i hi => by
  unfold fM
  simp only [pu]
  by_cases e : i = j
  · subst e; simp
  · rw [if_neg e, if_neg (fun q => e (mx_inj hi hj q))]
    exact h i hi
theorem upd2_rw {α : Type} (f : Nat → Nat → α) (a k : Nat) (x : α) : (upd2 f a k x) a = pu (f a) k x := by funext j; simp only [upd2, pu]; by_cases h : j = k <;> simp [h]
theorem lawM.row {g g' : Nat → Int32} {b : Nat} {cl : Nat → CL} {n : Nat} (h : lawM g b cl n) (hb : 110 ≤ b) (e : ∀ i, 110 ≤ i → g' i = g i) : lawM g' b cl n := by
  obtain ⟨h1, h2, cd, sz, h3, h4, h5⟩ := h
  refine ⟨h1, by rw [e _ (by omega)]; exact h2, cd, sz, h3, fun k hk => ?_, fun i hi => ?_⟩
  · rw [e _ (by omega), e _ (by omega)]; exact h4 k hk
  · rw [e _ (by omega), e _ (by omega), e _ (by omega), e _ (by omega), e _ (by omega)]; exact h5 i hi
theorem lawG.row {g g' : Nat → Int32} {cl : Nat → CL} {n : Nat} (h : lawG g cl n) (e4 : g' 4 = g 4) (e : ∀ i, 110 ≤ i → g' i = g i) : lawG g' cl n := by
  rcases h with ⟨h1, h2⟩ | ⟨k, h1, h2, h3⟩
  · exact Or.inl ⟨by rw [e4]; exact h1, h2⟩
  · exact Or.inr ⟨k, h1, by rw [e4]; exact h2, h3.row (by omega) e⟩
theorem lawG.sc {g g' : Nat → Int32} {cl : Nat → CL} {n : Nat} (h : lawG g cl n) (e : rowS g g') : lawG g' cl n := h.row (e 4 (by omega)) (fun i hi => e i (by omega))
/-- the ints of the reference that stay: all cells but those of L, and the paper fields -/
def frG (L : List Nat) (iv iv' : Nat → Nat → Int32) : Prop := ∀ a k, a ∉ L → ¬ (a = 46 ∧ (k = 34 ∨ k = 38)) → iv' a k = iv a k
theorem frG.rf {L : List Nat} {iv : Nat → Nat → Int32} : frG L iv iv := fun _ _ _ _ => rfl
theorem frG.tr {L : List Nat} {a b c : Nat → Nat → Int32} (h : frG L a b) (h2 : frG L b c) : frG L a c := fun x k h3 h4 => (h2 x k h3 h4).trans (h x k h3 h4)
theorem frG.mo {L L' : List Nat} {a b : Nat → Nat → Int32} (h : frG L a b) (hs : ∀ x, x ∈ L → x ∈ L') : frG L' a b := fun x k hx hk => h x k (fun q => hx (hs x q)) hk
theorem agM.G {L : List Nat} {a b : Nat → Nat → Int32} (h : agM a b) : frG L a b := fun x k _ h4 => h x k h4
theorem fr.G {L : List Nat} {a b : Nat → Nat → Int32} (h : fr L a b) : frG L a b := fun x k h3 _ => by rw [h x h3]
theorem bes_ok : ∀ a, a < 8 → ∀ b, b < 8 → besV (nI a) (nI b) = decide ((nI b - nI a + nI 8) - (nI b - nI a + nI 8) / nI 8 * nI 8 = nI 1 ∨ (nI b - nI a + nI 8) - (nI b - nI a + nI 8) / nI 8 * nI 8 = nI 7) := by decide +kernel
theorem stirF_off (b u : Int32) : ∀ (m q : Nat) (f : Nat → Int32) (j : Nat), (j < 11 + q ∨ 11 + q + m ≤ j) → stirF b u m q f j = f j := by
  intro m
  induction m with
  | zero => intro q f j _; rfl
  | succ m ih =>
    intro q f j hj
    simp only [stirF]
    rw [ih _ _ _ (by omega)]
    split
    · exact pu_n _ _ _ (by omega)
    · rfl
theorem m_stir_loop (X : XE) (d : Nat) (im lw : List (Option Nat)) (tl : List XC) (lv : Nat → Nat → Int64) (b : Int32) {p n : Nat} (hp : p < 6) (hn : n ≤ 6) {u : Int32} : ∀ (m q : Nat) (iv : Nat → Nat → Int32) (f : Nat → Int32) (w4 : Option XV), q + m = n → iv 48 0 = nI n → (∀ j, j < 6 → ∃ k, k ≤ 7 ∧ f (17 + j) = nI k) → f (17 + p) = u → eqS f (fM (iv 48)) →
    ∃ iv', run X (call X xT (d + 1)) false 0 xc270 2 [some (.inr (.inr (some 46))), some (.inl (nI p)), some (.inl b), some (.inl (nI q)), w4] [] (SS im lw tl, iv, lv) = some (none, (SS im lw tl, iv', lv)) ∧ eqS (stirF b u m q f) (fM (iv' 48)) ∧ rowS (iv 48) (iv' 48) ∧ fr [48] iv iv' := by
  intro m
  induction m with
  | zero =>
    intro q iv f w4 hq h0 hb hu he
    rw [sg270_2, h0, if_pos (nI_le (by omega) (by omega))]
    exact ⟨iv, rfl, he, rowS.rf, fr.rf⟩
  | succ m ih =>
    intro q iv f w4 hq h0 hb hu he
    have eq_ : iv 48 (20 + q) = f (17 + q) := by rw [he (17 + q) (by omega), fM, mx_b (by omega)]
    have ep : iv 48 (20 + p) = u := by rw [← hu, he (17 + p) (by omega), fM, mx_b hp]
    have et : iv 48 (14 + q) = f (11 + q) := by rw [he (11 + q) (by omega), fM, mx_t (by omega)]
    obtain ⟨x, hx, ex⟩ := hb q (by omega)
    obtain ⟨y, hy, ey⟩ := hb p hp
    have bo := bes_ok y (by omega) x (by omega)
    rw [hu] at ey
    rw [← ey, ← ex] at bo
    rw [sg270_2, h0, if_neg (nI_ge (show q < n by omega) (by omega)), nI_add, nI_add, nI_add, if_pos (ib5k (by omega)), if_pos (ib5k (by omega)), nI_clamp (by omega), nI_clamp (by omega), nI_clamp (by omega), eq_, ep, et]
    simp only [stirF]
    have step : ∀ w4, ∃ iv', run X (call X xT (d + 1)) false 0 xc270 78 [some (.inr (.inr (some 46))), some (.inl (nI p)), some (.inl b), some (.inl (nI q)), some (.inl w4)] [.inl (near (nI 9) (f (11 + q) + b)), .inl (nI (14 + q)), .inr (.inr (some 48))] (SS im lw tl, iv, lv) = some (none, (SS im lw tl, iv', lv)) ∧ eqS (stirF b u m (q + 1) (pu f (11 + q) (near (nI 9) (f (11 + q) + b)))) (fM (iv' 48)) ∧ rowS (iv 48) (iv' 48) ∧ fr [48] iv iv' := by
      intro w4
      rw [sg270_78, if_pos (ib5k (by omega)), nI_clamp (by omega), nI_add, ← mx_t (show q < 6 by omega)]
      obtain ⟨iv', g1, g2, g3, g4⟩ := ih (q + 1) (upd2 iv 48 (mx (11 + q)) (near (nI 9) (f (11 + q) + b))) (pu f (11 + q) (near (nI 9) (f (11 + q) + b))) (some (.inl w4)) (by omega) (by rw [upd2_rw, pu_n _ _ _ (by rw [mx_t (by omega)]; omega)]; exact h0) (fun j hj => by rw [pu_n _ _ _ (by omega)]; exact hb j hj) (by rw [pu_n _ _ _ (by omega)]; exact hu) (by rw [upd2_rw]; exact eqS_pu he (by omega) _)
      refine ⟨iv', g1, g2, ?_, ?_⟩
      · rw [upd2_rw] at g3
        exact (rowS_pu _ (by omega) _).tr g3
      · exact (fr_upd _ _ _ (by simp)).tr g4
    by_cases h1 : (f (17 + q) - u + nI 8) - (f (17 + q) - u + nI 8) / nI 8 * nI 8 = nI 1
    · rw [if_pos h1, if_pos (ib5k (by omega)), m_within X d, bI_some, near_fit _ (by decide), if_pos (show besV u (f (17 + q)) = true by rw [bo, decide_eq_true (Or.inl h1)])]
      exact step _
    · rw [if_neg h1]
      by_cases h2 : (f (17 + q) - u + nI 8) - (f (17 + q) - u + nI 8) / nI 8 * nI 8 = nI 7
      · rw [if_pos h2, if_pos (ib5k (by omega)), m_within X d, bI_some, near_fit _ (by decide), if_pos (show besV u (f (17 + q)) = true by rw [bo, decide_eq_true (Or.inr h2)])]
        exact step _
      · rw [if_neg h2, if_neg (show ¬ besV u (f (17 + q)) = true by rw [bo, decide_eq_false (fun q => q.elim h1 h2)]; decide), nI_add]
        exact ih (q + 1) iv f _ (by omega) h0 hb hu he
theorem m_stir (X : XE) (d : Nat) (im lw : List (Option Nat)) (tl : List XC) (iv : Nat → Nat → Int32) (lv : Nat → Nat → Int64) (b : Int32) {p n : Nat} (hp : p < 6) (hn : n ≤ 6) {f : Nat → Int32} (h0 : iv 48 0 = nI n) (hb : ∀ j, j < 6 → ∃ k, k ≤ 7 ∧ f (17 + j) = nI k) (he : eqS f (fM (iv 48))) :
    ∃ iv', call X xT (d + 2) 270 [.inr (.inr (some 46)), .inl (nI p), .inl b] (SS im lw tl, iv, lv) = some (none, (SS im lw tl, iv', lv)) ∧ eqS (stirF b (f (17 + p)) n 0 f) (fM (iv' 48)) ∧ rowS (iv 48) (iv' 48) ∧ fr [48] iv iv' := by
  rw [tr270]
  exact m_stir_loop X d im lw tl lv b hp hn n 0 iv f none (by omega) h0 hb rfl he
theorem sb1 (x : Int32) : x - nI 1 = x + (-1) := by rw [Int32.sub_eq_add_neg]; rfl
theorem sb2 (x : Int32) : x - nI 2 = x + (-2) := by rw [Int32.sub_eq_add_neg]; rfl
theorem sb3 (x : Int32) : x - nI 3 = x + (-3) := by rw [Int32.sub_eq_add_neg]; rfl
/-- crackIt -/
theorem m_crackIt (X : XE) (d : Nat) (im lw : List (Option Nat)) (tl : List XC) (iv : Nat → Nat → Int32) (lv : Nat → Nat → Int64) (h20 : iv 46 20 = nI 0) {cl : Nat → CL} {n np t p : Nat} (hl : lawG (iv 48) cl n) {f : Nat → Int32} (hk : okS f) (he : eqS f (fM (iv 48))) (hn : np ≤ 6) (h0 : iv 48 0 = nI np) (ht : t < 4) (hp : p < 6) :
    ∃ iv' lv', call X xT (d + 7) 269 [.inr (.inr (some 46)), .inl (nI t), .inl (nI p)] (SS im lw tl, iv, lv) = some (some (.inl (reaV f cl n t p)), (SS im lw tl, iv', lv')) ∧ eqS (reactF f np (reaV f cl n t p) t p) (fM (iv' 48)) ∧ rowS (iv 48) (iv' 48) ∧ frG [48] iv iv' ∧ agN lv lv' := by
  obtain ⟨iv1, lv1, g1, g2, g3⟩ := m_would X d im lw tl iv lv h20 hl (hk.eq he) ht hp
  rw [← reaV_eq he cl n ht hp] at g1
  have r1 : iv1 48 = iv 48 := g2.row (by decide)
  have eh : iv 48 (8 + p) = f (5 + p) := by rw [he (5 + p) (by omega), fM, mx_h hp]
  have et : iv 48 (14 + p) = f (11 + p) := by rw [he (11 + p) (by omega), fM, mx_t hp]
  have ea : iv 48 (30 + t) = f (31 + t) := by rw [he (31 + t) (by omega), fM, mx_a ht]
  rw [tr269, g1, bI_some, sg269_6, nI_add, nI_add, nI_add, if_pos (ib5k (by omega)), if_pos (ib5k (by omega)), if_pos (ib5k (by omega)), nI_clamp (by omega), nI_clamp (by omega), nI_clamp (by omega), r1, eh, et, ea]
  unfold reactF
  by_cases h2 : reaV f cl n t p = nI 2
  · rw [if_pos h2, if_pos h2, m_within X (d + 5), bI_some, near_fit _ (by decide), sg269_38, if_pos (ib5k (by omega)), nI_clamp (by omega), ← mx_h hp]
    obtain ⟨iv2, k1, k2, k3, k4⟩ := m_stir X (d + 4) im lw tl (upd2 iv1 48 (mx (5 + p)) (near (nI 9) (f (5 + p) + nI 1))) lv1 (-1) hp hn (f := pu f (5 + p) (near (nI 9) (f (5 + p) + nI 1))) (by rw [upd2_rw, pu_n _ _ _ (by rw [mx_h hp]; omega), r1]; exact h0) (fun j hj => by rw [pu_n _ _ _ (by omega)]; exact hk.b hj) (by rw [upd2_rw, r1]; exact eqS_pu he (by omega) _)
    rw [k1, bV_some, sg269_45]
    rw [pu_n _ _ _ (show 17 + p ≠ 5 + p by omega)] at k2
    refine ⟨iv2, lv1, rfl, k2, ?_, ?_, g3⟩
    · rw [upd2_rw, r1] at k3
      exact (rowS_pu _ (by omega) _).tr k3
    · exact g2.G.tr ((fr_upd _ _ _ (by simp)).tr k4).G
  · rw [if_neg h2, if_neg h2]
    by_cases h1 : reaV f cl n t p = nI 1
    · rw [if_pos h1, if_pos h1, m_within X (d + 5), bI_some, near_fit _ (by decide), sg269_79, if_pos (ib5k (by omega)), nI_clamp (by omega), ← mx_t hp]
      obtain ⟨iv2, k1, k2, k3, k4⟩ := m_stir X (d + 4) im lw tl (upd2 iv1 48 (mx (11 + p)) (near (nI 9) (f (11 + p) + nI 1))) lv1 (nI 1) hp hn (f := pu f (11 + p) (near (nI 9) (f (11 + p) + nI 1))) (by rw [upd2_rw, pu_n _ _ _ (by rw [mx_t hp]; omega), r1]; exact h0) (fun j hj => by rw [pu_n _ _ _ (by omega)]; exact hk.b hj) (by rw [upd2_rw, r1]; exact eqS_pu he (by omega) _)
      rw [k1, bV_some, sg269_86]
      rw [pu_n _ _ _ (show 17 + p ≠ 11 + p by omega)] at k2
      refine ⟨iv2, lv1, rfl, k2, ?_, ?_, g3⟩
      · rw [upd2_rw, r1] at k3
        exact (rowS_pu _ (by omega) _).tr k3
      · exact g2.G.tr ((fr_upd _ _ _ (by simp)).tr k4).G
    · rw [if_neg h1, if_neg h1, m_within X (d + 5), bI_some, near_fit _ (by decide), sg269_114, if_pos (ib5k (by omega)), nI_add, if_pos (ib5k (by omega)), nI_clamp (by omega), nI_clamp (by omega), upd2_rw, pu_n _ _ _ (show 8 + p ≠ 30 + t by omega), r1, eh, m_within X (d + 5), bI_some, near_fit _ (by decide), sg269_141, if_pos (ib5k (by omega)), nI_clamp (by omega), sb1, sb2, ← mx_a ht, ← mx_h hp]
      refine ⟨_, lv1, rfl, ?_, ?_, ?_, g3⟩
      · rw [upd2_rw, upd2_rw, r1]
        exact eqS_pu (eqS_pu he (by omega) _) (by omega) _
      · rw [upd2_rw, upd2_rw, r1]
        exact (rowS_pu _ (by omega) _).tr (rowS_pu _ (by omega) _)
      · exact g2.G.tr ((fr_upd _ _ _ (by simp)).tr (fr_upd _ _ _ (by simp))).G
/-- feedIt -/
theorem m_feedIt (X : XE) (d : Nat) (im lw : List (Option Nat)) (tl : List XC) (iv : Nat → Nat → Int32) (lv : Nat → Nat → Int64) {t p : Nat} {f : Nat → Int32} (he : eqS f (fM (iv 48))) (ht : t < 4) (hp : p < 6) :
    ∃ iv', call X xT (d + 2) 273 [.inr (.inr (some 46)), .inl (nI t), .inl (nI p)] (SS im lw tl, iv, lv) = some (none, (SS im lw tl, iv', lv)) ∧ eqS (eatF f t p) (fM (iv' 48)) ∧ rowS (iv 48) (iv' 48) ∧ fr [48] iv iv' := by
  have eh : iv 48 (8 + p) = f (5 + p) := by rw [he (5 + p) (by omega), fM, mx_h hp]
  have ey : iv 48 (34 + 6 * t + p) = f (35 + (t * 6 + p)) := by rw [he (35 + (t * 6 + p)) (by omega), fM, mx_y ht hp]
  rw [tr273, nI_add, pk_mul, nI_add, nI_add, if_pos (ib5k (by omega)), nI_clamp (by omega), eh, m_within X d, bI_some, near_fit _ (by decide), sg273_36, if_pos (ib5k (by omega)), if_pos (ib5k (by omega)), nI_clamp (by omega), nI_clamp (by omega), upd2_rw, pu_n _ _ _ (show 34 + 6 * t + p ≠ 8 + p by omega), ey, m_within X d, bI_some, near_fit _ (by decide), sg273_57, if_pos (ib5k (by omega)), nI_clamp (by omega), sb3, ← mx_h hp, ← mx_y ht hp]
  refine ⟨_, rfl, ?_, ?_, ?_⟩
  · rw [upd2_rw, upd2_rw]
    exact eqS_pu (eqS_pu he (by omega) _) (by omega) _
  · rw [upd2_rw, upd2_rw]
    exact (rowS_pu _ (by omega) _).tr (rowS_pu _ (by omega) _)
  · exact (fr_upd _ _ _ (by simp)).tr (fr_upd _ _ _ (by simp))
